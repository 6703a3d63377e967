noncomputable def f_X6_sitDown_b148 (pl : PlanT) (v1 : Int32) (v3 : Int32) (z0 : RideT) : Option (RideT) := if kb_in? v1 8 then (if ((qr_hasBag (pl_riders pl)) (v1).toNatClampNeg) = 0 then some ((rd_set_joined z0 ((rd_joined z0) &&& (((1 : Int32) <<< (v1 &&& 31)) ^^^ (-1 : Int32))))) else (if v3 = (-2 : Int32) then some ((rd_set_joined z0 ((rd_joined z0) &&& (((1 : Int32) <<< (v1 &&& 31)) ^^^ (-1 : Int32))))) else (f_X6_isFree (rd_set_joined z0 ((rd_joined z0) &&& (((1 : Int32) <<< (v1 &&& 31)) ^^^ (-1 : Int32)))) v3).bind fun r11 => (if r11 = 0 then some ((rd_set_joined z0 ((rd_joined z0) &&& (((1 : Int32) <<< (v1 &&& 31)) ^^^ (-1 : Int32))))) else if kb_in? v3 20 then some ((rd_set_luggage (rd_set_joined z0 ((rd_joined z0) &&& (((1 : Int32) <<< (v1 &&& 31)) ^^^ (-1 : Int32)))) (upd (rd_luggage (rd_set_joined z0 ((rd_joined z0) &&& (((1 : Int32) <<< (v1 &&& 31)) ^^^ (-1 : Int32))))) (v3).toNatClampNeg v1))) else none))) else none
noncomputable def f_X6_sitDown_b131 (pl : PlanT) (v1 : Int32) (v3 : Int32) (z0 : RideT) : Option (RideT) := if kb_in? v1 8 then if kb_in? v1 8 then f_X6_sitDown_b148 pl v1 v3 (rd_set_passed (rd_set_turn z0 (upd (rd_turn z0) (v1).toNatClampNeg (rd_turns z0))) (upd (rd_passed (rd_set_turn z0 (upd (rd_turn z0) (v1).toNatClampNeg (rd_turns z0)))) (v1).toNatClampNeg (0 : Int32))) else none else none
noncomputable def f_X6_sitDown_b113 (pl : PlanT) (v1 : Int32) (v2 : Int32) (v3 : Int32) (z0 : RideT) : Option (RideT) := if kb_in? v2 20 then f_X6_sitDown_b131 pl v1 v3 (rd_set_turns (rd_set_luggage z0 (upd (rd_luggage z0) (v2).toNatClampNeg (-2 : Int32))) ((rd_turns (rd_set_luggage z0 (upd (rd_luggage z0) (v2).toNatClampNeg (-2 : Int32)))) + (1 : Int32))) else none
noncomputable def f_X6_sitDown_b16 (pl : PlanT) : Nat → Int32 → Int32 → Int32 → Int32 → RideT → Option (RideT)
  | 0, _, _, _, _, _ => none
  | n + 1, v1, v2, v3, v4, z0 => (if (pl_riderCount pl) ≤ v4 then if kb_in? v1 8 then if kb_in? v2 20 then f_X6_sitDown_b113 pl v1 v2 v3 (rd_set_scene (rd_set_place z0 (upd (rd_place z0) (v1).toNatClampNeg v2)) (sc_set_sitter (rd_scene (rd_set_place z0 (upd (rd_place z0) (v1).toNatClampNeg v2))) (upd (sc_sitter (rd_scene (rd_set_place z0 (upd (rd_place z0) (v1).toNatClampNeg v2)))) (v2).toNatClampNeg v1))) else none else none else if kb_in? v4 8 then (if ((rd_place z0) (v4).toNatClampNeg) = v3 then f_X6_sitDown_b16 pl n v1 v2 v3 (v4 + (1 : Int32)) (rd_set_joined z0 ((rd_joined z0) ||| ((1 : Int32) <<< (v4 &&& 31)))) else if kb_in? v4 8 then (if (20 : Int32) ≤ ((rd_place z0) (v4).toNatClampNeg) then f_X6_sitDown_b16 pl n v1 v2 v3 (v4 + (1 : Int32)) z0 else (f_X10_holdsBit (rd_joined z0) v4).bind fun r18 => (if r18 = 0 then if kb_in? v4 8 then if kb_in? v4 8 then f_X6_sitDown_b16 pl n v1 v2 v3 (v4 + (1 : Int32)) (rd_set_passed z0 (upd (rd_passed z0) (v4).toNatClampNeg (((rd_passed z0) (v4).toNatClampNeg) + (1 : Int32)))) else none else none else f_X6_sitDown_b16 pl n v1 v2 v3 (v4 + (1 : Int32)) z0)) else none) else none)
noncomputable def f_X6_sitDown (rd : RideT) (pl : PlanT) (x0 : Int32) (x1 : Int32) : Option (RideT) := if kb_in? x1 20 then f_X6_sitDown_b16 pl 4096 x0 x1 ((cb_beside (pl_cab pl)) (x1).toNatClampNeg) (0 : Int32) rd else none
set_option maxHeartbeats 4000000 in
set_option maxRecDepth 100000 in
theorem c_X6_sitDown (l : Launch) (D : va_G) (dA : Nat → ClassId) (sz : Nat) (a : Nat → Nat) (pa : Nat → Nat) (rd : RideT) (pl : PlanT) (x0 : Int32) (x1 : Int32) (u0 : RideT) (hf : f_X6_sitDown rd pl x0 x1 = some (u0)) : kb_Mv l yX6_sitDown cX6_sitDown 5 none ({ frames := 1, cells := 0, slots := 0, locals := 21 } : Room) D dA [.ref (a 0), .int x0, .int x1] sz (w_Ride dA a (pa 0) (pa 1) rd ++ (w_Plan dA pa pl)) 0 0 (w_Ride dA a (pa 0) (pa 1) u0 ++ (w_Plan dA pa pl)) := by
  refine Met.ofW (cc := cX6_sitDown) (maxL := 5) (ret := none) (by decide) rfl ?_
  intro p e s m args below meth c s₁ B hml hv
  obtain ⟨rfl, hsz, hP, hK, hD0, hE⟩ := hv
  have hx := B.exec
  have hb := B.bytes
  have hr := B.returns
  have hown : s.vm.findClass RX6 = some m.cls := findClass_of_methodNamed B.named
  have hlocks := B.notSynchronized
  have hts : ∀ w ∈ kb_gw, w.before ([.ref (a 0), .int x0, .int x1] : List Value).toArray s = true := fun w hw => hK.2.1 w hw _
  subst hsz
  have hD := hD0.self (sz := s.heap.size)
  generalize hAe : va_A (w_Ride dA a (pa 0) (pa 1) rd ++ (w_Plan dA pa pl)) s.heap.size = A at hD hE ⊢
  have hA : ∀ q : Nat, s.heap.size ≤ q → A q := fun q h => by rw [← hAe]; exact Or.inr h
  have hS : va_S A s.heap s.heap [] := va_S.rf
  have hl := lv_entry ([.ref (a 0), .int x0, .int x1]) (n := 5) (Nat.le_of_ble_eq_true rfl)
  rw [lg_entry_eq]
  generalize (lg_sl ([.ref (a 0), .int x0, .int x1]) ++ List.replicate (5 - (lg_sl ([.ref (a 0), .int x0, .int x1])).length) Slot.unset).toArray = ls at hl ⊢
  have hl : lv_has ls 5 [(0, .ref (a 0)), (1, .int x0), (2, .int x1)] := hl
  generalize hQ : MQ below (va_Qv (fun (_ : Unit) => True) (kb_B D A (w_Ride dA a (pa 0) (pa 1) u0 ++ (w_Plan dA pa pl))) A) ([.ref (a 0), .int x0, .int x1] : List Value).toArray s 0 0 A = Q
  show W p l e ({ frames := 1, cells := 0, slots := 0, locals := 21 } : Room) s m ([.ref (a 0), .int x0, .int x1] : List Value).toArray below meth c s.heap [] 0 0 Q (F0 m 0 ls [])
  have RET : ∀ (w0 : RideT) (H : Heap) (locs : List Loc) (ls : Array Slot) (pc : Nat), some (w0) = some (u0) → va_P D vwCl (w_Ride dA a (pa 0) (pa 1) w0 ++ (w_Plan dA pa pl)) H → va_D A (w_Ride dA a (pa 0) (pa 1) w0 ++ (w_Plan dA pa pl)) → va_S A s.heap H locs → decode cX6_sitDown pc = .ok (.return_, 1) → W p l e ({ frames := 1, cells := 0, slots := 0, locals := 21 } : Room) s m ([.ref (a 0), .int x0, .int x1] : List Value).toArray below meth c H locs 0 0 Q (F0 m pc ls []) := by
    intro w0 H locs ls pc hq hP hD hS hd
    cases hq
    rw [← hQ]
    exact W.vret hx hb hr (fun t ht hW => ⟨⟨(), rfl, trivial, by rw [ht]; exact hP, hD⟩, hS.F ht⟩) hS.2.2 hd
  have B_148 : ∀ (v1 : Int32) (v3 : Int32) (z0 : RideT) (H : Heap) (locs : List Loc) (ls : Array Slot), f_X6_sitDown_b148 pl v1 v3 z0 = some (u0) → va_P D vwCl (w_Ride dA a (pa 0) (pa 1) z0 ++ (w_Plan dA pa pl)) H → va_D A (w_Ride dA a (pa 0) (pa 1) z0 ++ (w_Plan dA pa pl)) → va_S A s.heap H locs → lv_has ls 5 [(0, .ref (a 0)), (1, .int v1), (3, .int v3)] → W p l e ({ frames := 1, cells := 0, slots := 0, locals := 21 } : Room) s m ([.ref (a 0), .int x0, .int x1] : List Value).toArray below meth c H locs 0 0 Q (F0 m 148 ls []) := by
    intro v1 v3 z0 H locs ls hf hP hD hS hl
    rw [f_X6_sitDown_b148] at hf
    refine lv_aload_n hx hb dX6_sitDown_148 rfl (lv_at hl 0 rfl) ?_
    refine lv_dup hx hb dX6_sitDown_149 rfl ?_
    refine va_get (D := D) (ci := 6) (v := .int (rd_joined z0)) (C := RX6) (T := TX6) (N := 11) hx hb hts kb_inX6 hown hK.1 hP 0 rfl rfl 7 (by decide) (hK.2.w ww_2_80 rfl _) (fun _ h9 => h9) rfl dX6_sitDown_150 ?_
    refine lv_iconst (v := (1 : Int32)) hx hb dX6_sitDown_153 (by decide) ?_
    refine lv_iload_n hx hb dX6_sitDown_154 rfl (lv_at hl 1 rfl) ?_
    refine lv_ishl hx hb dX6_sitDown_155 ?_
    refine lv_iconst (v := (-1 : Int32)) hx hb dX6_sitDown_156 (by decide) ?_
    refine lv_ixor hx hb dX6_sitDown_157 ?_
    refine lv_iand hx hb dX6_sitDown_158 ?_
    refine va_put (D := D) (ci := 6) (v := .int ((rd_joined z0) &&& (((1 : Int32) <<< (v1 &&& 31)) ^^^ (-1 : Int32)))) (ty := .int) (C := RX6) (T := TX6) (N := 11) hx hb hts kb_inX6 tyX6 tyX6_ok nmX6 hown hK.1 hP hD hS 0 rfl rfl 7 (by decide) (hK.2.w ww_2_80 rfl _) (fun _ h9 => h9) rfl (by decide +kernel) rfl rfl (Nat.le_of_ble_eq_true rfl) dX6_sitDown_159 (fun H locs hP hD hS => ?_)
    have hP : va_P D vwCl (w_Ride dA a (pa 0) (pa 1) (rd_set_joined z0 ((rd_joined z0) &&& (((1 : Int32) <<< (v1 &&& 31)) ^^^ (-1 : Int32)))) ++ (w_Plan dA pa pl)) H := hP
    have hD : va_D A (w_Ride dA a (pa 0) (pa 1) (rd_set_joined z0 ((rd_joined z0) &&& (((1 : Int32) <<< (v1 &&& 31)) ^^^ (-1 : Int32)))) ++ (w_Plan dA pa pl)) := hD
    refine lv_aload_n hx hb dX6_sitDown_162 rfl (lv_at hl 0 rfl) ?_
    refine va_get (D := D) (ci := 6) (v := .ref (pa 0)) (C := RX6) (T := TX6) (N := 11) hx hb hts kb_inX6 hown hK.1 hP 0 rfl rfl 0 (by decide) (hK.2.w ww_2_66 rfl _) (fun _ h9 => h9) rfl dX6_sitDown_163 ?_
    refine va_get (D := D) (ci := 5) (v := .ref (pa 12)) (C := RX5) (T := TX5) (N := 8) hx hb hts kb_inX5 hown hK.1 hP 9 rfl rfl 2 (by decide) (hK.2.w ww_1_223 rfl _) (fun _ h9 => h9) rfl dX6_sitDown_166 ?_
    refine lv_iload_n hx hb dX6_sitDown_169 rfl (lv_at hl 1 rfl) ?_
    obtain ⟨h_8, hf⟩ := kb_if hf
    refine va_aldq (D := D) hx hb hK.1 hP 21 5 rfl rfl h_8 dX6_sitDown_170 ?_
    show W p l e ({ frames := 1, cells := 0, slots := 0, locals := 21 } : Room) s m ([.ref (a 0), .int x0, .int x1] : List Value).toArray below meth c _ _ 0 0 Q (F0 m 171 _ [.ref (pa (13 + (v1).toNatClampNeg))])
    refine va_get (D := D) (ci := 7) (v := .int ((qr_hasBag (pl_riders pl)) (v1).toNatClampNeg)) (C := RX7) (T := TX7) (N := 10) hx hb hts kb_inX7 hown hK.1 hP (9 + (13 + (v1).toNatClampNeg)) (kb_at rfl (at_Plan_13 dA pa pl (v1).toNatClampNeg (kb_inlt h_8))) rfl 6 (by decide) (hK.2.w ww_1_181 rfl _) (fun _ h9 => h9) rfl dX6_sitDown_171 ?_
    refine lv_if_eq (tgt := 198) hx hb dX6_sitDown_174 (by decide) (fun c_9 => ?_) (fun c_9 => ?_)
    · rw [if_pos c_9] at hf
      exact RET _ H _ ls 198 hf hP hD hS dX6_sitDown_198
    · rw [if_neg c_9] at hf
      refine lv_iload_n hx hb dX6_sitDown_177 rfl (lv_at hl 2 rfl) ?_
      refine lv_bipush (v := (-2 : Int32)) hx hb dX6_sitDown_178 (by decide) ?_
      refine lv_icmp_eq (tgt := 198) hx hb dX6_sitDown_180 (by decide) (fun c_10 => ?_) (fun c_10 => ?_)
      · rw [if_pos c_10] at hf
        exact RET _ H _ ls 198 hf hP hD hS dX6_sitDown_198
      · rw [if_neg c_10] at hf
        refine lv_aload_n hx hb dX6_sitDown_183 rfl (lv_at hl 0 rfl) ?_
        refine lv_iload_n hx hb dX6_sitDown_184 rfl (lv_at hl 2 rfl) ?_
        obtain ⟨r11, hc11, hf⟩ := kb_bind hf
        refine kb_ci (ws2 := (w_Ride dA a (pa 0) (pa 1) (rd_set_joined z0 ((rd_joined z0) &&& (((1 : Int32) <<< (v1 &&& 31)) ^^^ (-1 : Int32)))) ++ (w_Plan dA pa pl))) (kb_rV (n := 1) (As := [.int v3]) (rest := []) hx hb hml hown hK (c_X6_isFree l D dA H.size a (pa 0) (pa 1) (rd_set_joined z0 ((rd_joined z0) &&& (((1 : Int32) <<< (v1 &&& 31)) ^^^ (-1 : Int32)))) v3 r11 hc11) ⟨ww_4_10, ww_4_7, ww_4_9, ws_28, ww_1_8, rfl, by decide, by decide⟩ rfl rfl (by decide +kernel) ⟨Nat.le_of_ble_eq_true rfl, Nat.le_of_ble_eq_true rfl⟩ hP hD hS hA hE [0, 1, 2, 3, 4, 5, 6, 7, 8] rfl (by decide) 0 rfl rfl rfl hl.1 rfl (Nat.le_of_ble_eq_true rfl) dX6_sitDown_185 ⟨Nat.le_of_ble_eq_true rfl, Nat.le_of_ble_eq_true rfl⟩) hP hD hS hA [0, 1, 2, 3, 4, 5, 6, 7, 8] [9, 10, 11, 12, 13, 14, 15, 16, 17, 18, 19, 20, 21, 22, 23, 24, 25, 26, 27, 28, 29] [21, 22, 23, 24, 25, 26, 27, 28, 29, 0, 1, 2, 3, 4, 5, 6, 7, 8, 9, 10, 11, 12, 13, 14, 15, 16, 17, 18, 19, 20] rfl rfl (by decide) (by decide) rfl (by decide) (fun H locs hP hD hS => ?_)
        refine lv_if_eq (tgt := 198) hx hb dX6_sitDown_188 (by decide) (fun c_12 => ?_) (fun c_12 => ?_)
        · rw [if_pos c_12] at hf
          exact RET _ H _ ls 198 hf hP hD hS dX6_sitDown_198
        · rw [if_neg c_12] at hf
          refine lv_aload_n hx hb dX6_sitDown_191 rfl (lv_at hl 0 rfl) ?_
          refine va_get (D := D) (ci := 6) (v := .ref (a 5)) (C := RX6) (T := TX6) (N := 11) hx hb hts kb_inX6 hown hK.1 hP 0 rfl rfl 3 (by decide) (hK.2.w ww_2_72 rfl _) (fun _ h9 => h9) rfl dX6_sitDown_192 ?_
          refine lv_iload_n hx hb dX6_sitDown_195 rfl (lv_at hl 2 rfl) ?_
          refine lv_iload_n hx hb dX6_sitDown_196 rfl (lv_at hl 1 rfl) ?_
          obtain ⟨h_13, hf⟩ := kb_if hf
          refine va_iast (D := D) hx hb hK.1 hP hD hS 5 0 rfl rfl h_13 dX6_sitDown_197 (fun H locs hP hD hS => ?_)
          have hP : va_P D vwCl (w_Ride dA a (pa 0) (pa 1) (rd_set_luggage (rd_set_joined z0 ((rd_joined z0) &&& (((1 : Int32) <<< (v1 &&& 31)) ^^^ (-1 : Int32)))) (upd (rd_luggage (rd_set_joined z0 ((rd_joined z0) &&& (((1 : Int32) <<< (v1 &&& 31)) ^^^ (-1 : Int32))))) (v3).toNatClampNeg v1)) ++ (w_Plan dA pa pl)) H := hP
          have hD : va_D A (w_Ride dA a (pa 0) (pa 1) (rd_set_luggage (rd_set_joined z0 ((rd_joined z0) &&& (((1 : Int32) <<< (v1 &&& 31)) ^^^ (-1 : Int32)))) (upd (rd_luggage (rd_set_joined z0 ((rd_joined z0) &&& (((1 : Int32) <<< (v1 &&& 31)) ^^^ (-1 : Int32))))) (v3).toNatClampNeg v1)) ++ (w_Plan dA pa pl)) := hD
          exact RET _ H _ ls 198 hf hP hD hS dX6_sitDown_198
  have B_131 : ∀ (v1 : Int32) (v3 : Int32) (z0 : RideT) (H : Heap) (locs : List Loc) (ls : Array Slot), f_X6_sitDown_b131 pl v1 v3 z0 = some (u0) → va_P D vwCl (w_Ride dA a (pa 0) (pa 1) z0 ++ (w_Plan dA pa pl)) H → va_D A (w_Ride dA a (pa 0) (pa 1) z0 ++ (w_Plan dA pa pl)) → va_S A s.heap H locs → lv_has ls 5 [(0, .ref (a 0)), (1, .int v1), (3, .int v3)] → W p l e ({ frames := 1, cells := 0, slots := 0, locals := 21 } : Room) s m ([.ref (a 0), .int x0, .int x1] : List Value).toArray below meth c H locs 0 0 Q (F0 m 131 ls []) := by
    intro v1 v3 z0 H locs ls hf hP hD hS hl
    rw [f_X6_sitDown_b131] at hf
    refine lv_aload_n hx hb dX6_sitDown_131 rfl (lv_at hl 0 rfl) ?_
    refine va_get (D := D) (ci := 6) (v := .ref (a 6)) (C := RX6) (T := TX6) (N := 11) hx hb hts kb_inX6 hown hK.1 hP 0 rfl rfl 4 (by decide) (hK.2.w ww_2_74 rfl _) (fun _ h9 => h9) rfl dX6_sitDown_132 ?_
    refine lv_iload_n hx hb dX6_sitDown_135 rfl (lv_at hl 1 rfl) ?_
    refine lv_aload_n hx hb dX6_sitDown_136 rfl (lv_at hl 0 rfl) ?_
    refine va_get (D := D) (ci := 6) (v := .int (rd_turns z0)) (C := RX6) (T := TX6) (N := 11) hx hb hts kb_inX6 hown hK.1 hP 0 rfl rfl 8 (by decide) (hK.2.w ww_2_81 rfl _) (fun _ h9 => h9) rfl dX6_sitDown_137 ?_
    obtain ⟨h_6, hf⟩ := kb_if hf
    refine va_iast (D := D) hx hb hK.1 hP hD hS 6 0 rfl rfl h_6 dX6_sitDown_140 (fun H locs hP hD hS => ?_)
    have hP : va_P D vwCl (w_Ride dA a (pa 0) (pa 1) (rd_set_turn z0 (upd (rd_turn z0) (v1).toNatClampNeg (rd_turns z0))) ++ (w_Plan dA pa pl)) H := hP
    have hD : va_D A (w_Ride dA a (pa 0) (pa 1) (rd_set_turn z0 (upd (rd_turn z0) (v1).toNatClampNeg (rd_turns z0))) ++ (w_Plan dA pa pl)) := hD
    refine lv_aload_n hx hb dX6_sitDown_141 rfl (lv_at hl 0 rfl) ?_
    refine va_get (D := D) (ci := 6) (v := .ref (a 8)) (C := RX6) (T := TX6) (N := 11) hx hb hts kb_inX6 hown hK.1 hP 0 rfl rfl 6 (by decide) (hK.2.w ww_2_79 rfl _) (fun _ h9 => h9) rfl dX6_sitDown_142 ?_
    refine lv_iload_n hx hb dX6_sitDown_145 rfl (lv_at hl 1 rfl) ?_
    refine lv_iconst (v := (0 : Int32)) hx hb dX6_sitDown_146 (by decide) ?_
    obtain ⟨h_7, hf⟩ := kb_if hf
    refine va_iast (D := D) hx hb hK.1 hP hD hS 8 0 rfl rfl h_7 dX6_sitDown_147 (fun H locs hP hD hS => ?_)
    have hP : va_P D vwCl (w_Ride dA a (pa 0) (pa 1) (rd_set_passed (rd_set_turn z0 (upd (rd_turn z0) (v1).toNatClampNeg (rd_turns z0))) (upd (rd_passed (rd_set_turn z0 (upd (rd_turn z0) (v1).toNatClampNeg (rd_turns z0)))) (v1).toNatClampNeg (0 : Int32))) ++ (w_Plan dA pa pl)) H := hP
    have hD : va_D A (w_Ride dA a (pa 0) (pa 1) (rd_set_passed (rd_set_turn z0 (upd (rd_turn z0) (v1).toNatClampNeg (rd_turns z0))) (upd (rd_passed (rd_set_turn z0 (upd (rd_turn z0) (v1).toNatClampNeg (rd_turns z0)))) (v1).toNatClampNeg (0 : Int32))) ++ (w_Plan dA pa pl)) := hD
    exact B_148 _ _ _ _ _ _ hf hP hD hS (lv_sub hl [0, 1, 2] rfl)
  have B_113 : ∀ (v1 : Int32) (v2 : Int32) (v3 : Int32) (z0 : RideT) (H : Heap) (locs : List Loc) (ls : Array Slot), f_X6_sitDown_b113 pl v1 v2 v3 z0 = some (u0) → va_P D vwCl (w_Ride dA a (pa 0) (pa 1) z0 ++ (w_Plan dA pa pl)) H → va_D A (w_Ride dA a (pa 0) (pa 1) z0 ++ (w_Plan dA pa pl)) → va_S A s.heap H locs → lv_has ls 5 [(0, .ref (a 0)), (1, .int v1), (2, .int v2), (3, .int v3)] → W p l e ({ frames := 1, cells := 0, slots := 0, locals := 21 } : Room) s m ([.ref (a 0), .int x0, .int x1] : List Value).toArray below meth c H locs 0 0 Q (F0 m 113 ls []) := by
    intro v1 v2 v3 z0 H locs ls hf hP hD hS hl
    rw [f_X6_sitDown_b113] at hf
    refine lv_aload_n hx hb dX6_sitDown_113 rfl (lv_at hl 0 rfl) ?_
    refine va_get (D := D) (ci := 6) (v := .ref (a 5)) (C := RX6) (T := TX6) (N := 11) hx hb hts kb_inX6 hown hK.1 hP 0 rfl rfl 3 (by decide) (hK.2.w ww_2_72 rfl _) (fun _ h9 => h9) rfl dX6_sitDown_114 ?_
    refine lv_iload_n hx hb dX6_sitDown_117 rfl (lv_at hl 2 rfl) ?_
    refine lv_bipush (v := (-2 : Int32)) hx hb dX6_sitDown_118 (by decide) ?_
    obtain ⟨h_5, hf⟩ := kb_if hf
    refine va_iast (D := D) hx hb hK.1 hP hD hS 5 0 rfl rfl h_5 dX6_sitDown_120 (fun H locs hP hD hS => ?_)
    have hP : va_P D vwCl (w_Ride dA a (pa 0) (pa 1) (rd_set_luggage z0 (upd (rd_luggage z0) (v2).toNatClampNeg (-2 : Int32))) ++ (w_Plan dA pa pl)) H := hP
    have hD : va_D A (w_Ride dA a (pa 0) (pa 1) (rd_set_luggage z0 (upd (rd_luggage z0) (v2).toNatClampNeg (-2 : Int32))) ++ (w_Plan dA pa pl)) := hD
    refine lv_aload_n hx hb dX6_sitDown_121 rfl (lv_at hl 0 rfl) ?_
    refine lv_dup hx hb dX6_sitDown_122 rfl ?_
    refine va_get (D := D) (ci := 6) (v := .int (rd_turns (rd_set_luggage z0 (upd (rd_luggage z0) (v2).toNatClampNeg (-2 : Int32))))) (C := RX6) (T := TX6) (N := 11) hx hb hts kb_inX6 hown hK.1 hP 0 rfl rfl 8 (by decide) (hK.2.w ww_2_81 rfl _) (fun _ h9 => h9) rfl dX6_sitDown_123 ?_
    refine lv_iconst (v := (1 : Int32)) hx hb dX6_sitDown_126 (by decide) ?_
    refine lv_iadd hx hb dX6_sitDown_127 ?_
    refine va_put (D := D) (ci := 6) (v := .int ((rd_turns (rd_set_luggage z0 (upd (rd_luggage z0) (v2).toNatClampNeg (-2 : Int32)))) + (1 : Int32))) (ty := .int) (C := RX6) (T := TX6) (N := 11) hx hb hts kb_inX6 tyX6 tyX6_ok nmX6 hown hK.1 hP hD hS 0 rfl rfl 8 (by decide) (hK.2.w ww_2_81 rfl _) (fun _ h9 => h9) rfl (by decide +kernel) rfl rfl (Nat.le_of_ble_eq_true rfl) dX6_sitDown_128 (fun H locs hP hD hS => ?_)
    have hP : va_P D vwCl (w_Ride dA a (pa 0) (pa 1) (rd_set_turns (rd_set_luggage z0 (upd (rd_luggage z0) (v2).toNatClampNeg (-2 : Int32))) ((rd_turns (rd_set_luggage z0 (upd (rd_luggage z0) (v2).toNatClampNeg (-2 : Int32)))) + (1 : Int32))) ++ (w_Plan dA pa pl)) H := hP
    have hD : va_D A (w_Ride dA a (pa 0) (pa 1) (rd_set_turns (rd_set_luggage z0 (upd (rd_luggage z0) (v2).toNatClampNeg (-2 : Int32))) ((rd_turns (rd_set_luggage z0 (upd (rd_luggage z0) (v2).toNatClampNeg (-2 : Int32)))) + (1 : Int32))) ++ (w_Plan dA pa pl)) := hD
    exact B_131 _ _ _ _ _ _ hf hP hD hS (lv_sub hl [0, 1, 3] rfl)
  have B_16 : ∀ (n : Nat) (v1 : Int32) (v2 : Int32) (v3 : Int32) (v4 : Int32) (z0 : RideT) (H : Heap) (locs : List Loc) (ls : Array Slot), f_X6_sitDown_b16 pl n v1 v2 v3 v4 z0 = some (u0) → va_P D vwCl (w_Ride dA a (pa 0) (pa 1) z0 ++ (w_Plan dA pa pl)) H → va_D A (w_Ride dA a (pa 0) (pa 1) z0 ++ (w_Plan dA pa pl)) → va_S A s.heap H locs → lv_has ls 5 [(0, .ref (a 0)), (1, .int v1), (2, .int v2), (3, .int v3), (4, .int v4)] → W p l e ({ frames := 1, cells := 0, slots := 0, locals := 21 } : Room) s m ([.ref (a 0), .int x0, .int x1] : List Value).toArray below meth c H locs 0 0 Q (F0 m 16 ls []) := by
    intro n
    induction n with
    | zero =>
      intro v1 v2 v3 v4 z0 H locs ls hf
      exact absurd hf (by simp [f_X6_sitDown_b16])
    | succ n ih =>
      intro v1 v2 v3 v4 z0 H locs ls hf hP hD hS hl
      rw [f_X6_sitDown_b16] at hf
      refine lv_iload hx hb dX6_sitDown_16 (lv_at hl 4 rfl) ?_
      refine lv_aload_n hx hb dX6_sitDown_18 rfl (lv_at hl 0 rfl) ?_
      refine va_get (D := D) (ci := 6) (v := .ref (pa 0)) (C := RX6) (T := TX6) (N := 11) hx hb hts kb_inX6 hown hK.1 hP 0 rfl rfl 0 (by decide) (hK.2.w ww_2_66 rfl _) (fun _ h9 => h9) rfl dX6_sitDown_19 ?_
      refine va_get (D := D) (ci := 5) (v := .int (pl_riderCount pl)) (C := RX5) (T := TX5) (N := 8) hx hb hts kb_inX5 hown hK.1 hP 9 rfl rfl 5 (by decide) (hK.2.w ww_1_234 rfl _) (fun _ h9 => h9) rfl dX6_sitDown_22 ?_
      refine lv_icmp_ge (tgt := 96) hx hb dX6_sitDown_25 (by decide) (fun c_2 => ?_) (fun c_2 => ?_)
      · rw [if_pos c_2] at hf
        refine lv_aload_n hx hb dX6_sitDown_96 rfl (lv_at hl 0 rfl) ?_
        refine va_get (D := D) (ci := 6) (v := .ref (a 4)) (C := RX6) (T := TX6) (N := 11) hx hb hts kb_inX6 hown hK.1 hP 0 rfl rfl 2 (by decide) (hK.2.w ww_2_70 rfl _) (fun _ h9 => h9) rfl dX6_sitDown_97 ?_
        refine lv_iload_n hx hb dX6_sitDown_100 rfl (lv_at hl 1 rfl) ?_
        refine lv_iload_n hx hb dX6_sitDown_101 rfl (lv_at hl 2 rfl) ?_
        obtain ⟨h_3, hf⟩ := kb_if hf
        refine va_iast (D := D) hx hb hK.1 hP hD hS 4 0 rfl rfl h_3 dX6_sitDown_102 (fun H locs hP hD hS => ?_)
        have hP : va_P D vwCl (w_Ride dA a (pa 0) (pa 1) (rd_set_place z0 (upd (rd_place z0) (v1).toNatClampNeg v2)) ++ (w_Plan dA pa pl)) H := hP
        have hD : va_D A (w_Ride dA a (pa 0) (pa 1) (rd_set_place z0 (upd (rd_place z0) (v1).toNatClampNeg v2)) ++ (w_Plan dA pa pl)) := hD
        refine lv_aload_n hx hb dX6_sitDown_103 rfl (lv_at hl 0 rfl) ?_
        refine va_get (D := D) (ci := 6) (v := .ref (a 1)) (C := RX6) (T := TX6) (N := 11) hx hb hts kb_inX6 hown hK.1 hP 0 rfl rfl 1 (by decide) (hK.2.w ww_2_67 rfl _) (fun _ h9 => h9) rfl dX6_sitDown_104 ?_
        refine va_get (D := D) (ci := 9) (v := .ref (a 2)) (C := RX9) (T := TX9) (N := 3) hx hb hts kb_inX9 hown hK.1 hP 1 rfl rfl 0 (by decide) (hK.2.w ww_2_54 rfl _) (fun _ h9 => h9) rfl dX6_sitDown_107 ?_
        refine lv_iload_n hx hb dX6_sitDown_110 rfl (lv_at hl 2 rfl) ?_
        refine lv_iload_n hx hb dX6_sitDown_111 rfl (lv_at hl 1 rfl) ?_
        obtain ⟨h_4, hf⟩ := kb_if hf
        refine va_iast (D := D) hx hb hK.1 hP hD hS 2 0 rfl rfl h_4 dX6_sitDown_112 (fun H locs hP hD hS => ?_)
        have hP : va_P D vwCl (w_Ride dA a (pa 0) (pa 1) (rd_set_scene (rd_set_place z0 (upd (rd_place z0) (v1).toNatClampNeg v2)) (sc_set_sitter (rd_scene (rd_set_place z0 (upd (rd_place z0) (v1).toNatClampNeg v2))) (upd (sc_sitter (rd_scene (rd_set_place z0 (upd (rd_place z0) (v1).toNatClampNeg v2)))) (v2).toNatClampNeg v1))) ++ (w_Plan dA pa pl)) H := hP
        have hD : va_D A (w_Ride dA a (pa 0) (pa 1) (rd_set_scene (rd_set_place z0 (upd (rd_place z0) (v1).toNatClampNeg v2)) (sc_set_sitter (rd_scene (rd_set_place z0 (upd (rd_place z0) (v1).toNatClampNeg v2))) (upd (sc_sitter (rd_scene (rd_set_place z0 (upd (rd_place z0) (v1).toNatClampNeg v2)))) (v2).toNatClampNeg v1))) ++ (w_Plan dA pa pl)) := hD
        exact B_113 _ _ _ _ _ _ _ hf hP hD hS (lv_sub hl [0, 1, 2, 3] rfl)
      · rw [if_neg c_2] at hf
        refine lv_aload_n hx hb dX6_sitDown_28 rfl (lv_at hl 0 rfl) ?_
        refine va_get (D := D) (ci := 6) (v := .ref (a 4)) (C := RX6) (T := TX6) (N := 11) hx hb hts kb_inX6 hown hK.1 hP 0 rfl rfl 2 (by decide) (hK.2.w ww_2_70 rfl _) (fun _ h9 => h9) rfl dX6_sitDown_29 ?_
        refine lv_iload hx hb dX6_sitDown_32 (lv_at hl 4 rfl) ?_
        obtain ⟨h_14, hf⟩ := kb_if hf
        refine va_iald (D := D) hx hb hK.1 hP 4 0 rfl rfl h_14 dX6_sitDown_34 ?_
        refine lv_iload_n hx hb dX6_sitDown_35 rfl (lv_at hl 3 rfl) ?_
        refine lv_icmp_ne (tgt := 55) hx hb dX6_sitDown_36 (by decide) (fun c_15 => ?_) (fun c_15 => ?_)
        · rw [if_neg c_15] at hf
          refine lv_aload_n hx hb dX6_sitDown_55 rfl (lv_at hl 0 rfl) ?_
          refine va_get (D := D) (ci := 6) (v := .ref (a 4)) (C := RX6) (T := TX6) (N := 11) hx hb hts kb_inX6 hown hK.1 hP 0 rfl rfl 2 (by decide) (hK.2.w ww_2_70 rfl _) (fun _ h9 => h9) rfl dX6_sitDown_56 ?_
          refine lv_iload hx hb dX6_sitDown_59 (lv_at hl 4 rfl) ?_
          obtain ⟨h_16, hf⟩ := kb_if hf
          refine va_iald (D := D) hx hb hK.1 hP 4 0 rfl rfl h_16 dX6_sitDown_61 ?_
          refine lv_bipush (v := (20 : Int32)) hx hb dX6_sitDown_62 (by decide) ?_
          refine lv_icmp_ge (tgt := 90) hx hb dX6_sitDown_64 (by decide) (fun c_17 => ?_) (fun c_17 => ?_)
          · rw [if_pos c_17] at hf
            refine lv_iinc (v := (v4 + (1 : Int32))) (lv' := [(4, .int (v4 + (1 : Int32))), (0, .ref (a 0)), (1, .int v1), (2, .int v2), (3, .int v3)]) hx hb dX6_sitDown_90 hl (k := 4) rfl (by rfl) (by decide) rfl (fun ls hl => ?_)
            refine lv_goto (tgt := 16) hx hb dX6_sitDown_93 (by decide) ?_
            exact ih _ _ _ _ _ _ _ _ hf hP hD hS (lv_sub hl [1, 2, 3, 4, 0] rfl)
          · rw [if_neg c_17] at hf
            refine lv_aload_n hx hb dX6_sitDown_67 rfl (lv_at hl 0 rfl) ?_
            refine va_get (D := D) (ci := 6) (v := .int (rd_joined z0)) (C := RX6) (T := TX6) (N := 11) hx hb hts kb_inX6 hown hK.1 hP 0 rfl rfl 7 (by decide) (hK.2.w ww_2_80 rfl _) (fun _ h9 => h9) rfl dX6_sitDown_68 ?_
            refine lv_iload hx hb dX6_sitDown_71 (lv_at hl 4 rfl) ?_
            obtain ⟨r18, hc18, hf⟩ := kb_bind hf
            refine kb_ci (ws2 := (w_Ride dA a (pa 0) (pa 1) z0 ++ (w_Plan dA pa pl))) (kb_rSN (n := 2) (As := [.int (rd_joined z0), .int v4]) (rest := []) hx hb hml hown hK (c_X10_holdsBit l D dA H.size (rd_joined z0) v4 r18 hc18) ⟨ww_3_158, ww_4_6, ww_3_157, ww_1_1, by decide, by decide⟩ rfl rfl (by decide +kernel) ⟨Nat.le_of_ble_eq_true rfl, Nat.le_of_ble_eq_true rfl⟩ hP hD hS hA hE [] rfl (by decide) rfl hl.1 rfl (Nat.le_of_ble_eq_true rfl) dX6_sitDown_73 ⟨Nat.le_of_ble_eq_true rfl, Nat.le_of_ble_eq_true rfl⟩) hP hD hS hA [] [0, 1, 2, 3, 4, 5, 6, 7, 8, 9, 10, 11, 12, 13, 14, 15, 16, 17, 18, 19, 20, 21, 22, 23, 24, 25, 26, 27, 28, 29] [0, 1, 2, 3, 4, 5, 6, 7, 8, 9, 10, 11, 12, 13, 14, 15, 16, 17, 18, 19, 20, 21, 22, 23, 24, 25, 26, 27, 28, 29] rfl rfl (by decide) (by decide) rfl (by decide) (fun H locs hP hD hS => ?_)
            refine lv_if_ne (tgt := 90) hx hb dX6_sitDown_76 (by decide) (fun c_19 => ?_) (fun c_19 => ?_)
            · rw [if_neg c_19] at hf
              refine lv_iinc (v := (v4 + (1 : Int32))) (lv' := [(4, .int (v4 + (1 : Int32))), (0, .ref (a 0)), (1, .int v1), (2, .int v2), (3, .int v3)]) hx hb dX6_sitDown_90 hl (k := 4) rfl (by rfl) (by decide) rfl (fun ls hl => ?_)
              refine lv_goto (tgt := 16) hx hb dX6_sitDown_93 (by decide) ?_
              exact ih _ _ _ _ _ _ _ _ hf hP hD hS (lv_sub hl [1, 2, 3, 4, 0] rfl)
            · rw [if_pos c_19] at hf
              refine lv_aload_n hx hb dX6_sitDown_79 rfl (lv_at hl 0 rfl) ?_
              refine va_get (D := D) (ci := 6) (v := .ref (a 8)) (C := RX6) (T := TX6) (N := 11) hx hb hts kb_inX6 hown hK.1 hP 0 rfl rfl 6 (by decide) (hK.2.w ww_2_79 rfl _) (fun _ h9 => h9) rfl dX6_sitDown_80 ?_
              refine lv_iload hx hb dX6_sitDown_83 (lv_at hl 4 rfl) ?_
              refine lv_dup2_11 hx hb dX6_sitDown_85 rfl rfl ?_
              obtain ⟨h_20, hf⟩ := kb_if hf
              refine va_iald (D := D) hx hb hK.1 hP 8 0 rfl rfl h_20 dX6_sitDown_86 ?_
              refine lv_iconst (v := (1 : Int32)) hx hb dX6_sitDown_87 (by decide) ?_
              refine lv_iadd hx hb dX6_sitDown_88 ?_
              obtain ⟨h_21, hf⟩ := kb_if hf
              refine va_iast (D := D) hx hb hK.1 hP hD hS 8 0 rfl rfl h_21 dX6_sitDown_89 (fun H locs hP hD hS => ?_)
              have hP : va_P D vwCl (w_Ride dA a (pa 0) (pa 1) (rd_set_passed z0 (upd (rd_passed z0) (v4).toNatClampNeg (((rd_passed z0) (v4).toNatClampNeg) + (1 : Int32)))) ++ (w_Plan dA pa pl)) H := hP
              have hD : va_D A (w_Ride dA a (pa 0) (pa 1) (rd_set_passed z0 (upd (rd_passed z0) (v4).toNatClampNeg (((rd_passed z0) (v4).toNatClampNeg) + (1 : Int32)))) ++ (w_Plan dA pa pl)) := hD
              refine lv_iinc (v := (v4 + (1 : Int32))) (lv' := [(4, .int (v4 + (1 : Int32))), (0, .ref (a 0)), (1, .int v1), (2, .int v2), (3, .int v3)]) hx hb dX6_sitDown_90 hl (k := 4) rfl (by rfl) (by decide) rfl (fun ls hl => ?_)
              refine lv_goto (tgt := 16) hx hb dX6_sitDown_93 (by decide) ?_
              exact ih _ _ _ _ _ _ _ _ hf hP hD hS (lv_sub hl [1, 2, 3, 4, 0] rfl)
        · rw [if_pos c_15] at hf
          refine lv_aload_n hx hb dX6_sitDown_39 rfl (lv_at hl 0 rfl) ?_
          refine lv_dup hx hb dX6_sitDown_40 rfl ?_
          refine va_get (D := D) (ci := 6) (v := .int (rd_joined z0)) (C := RX6) (T := TX6) (N := 11) hx hb hts kb_inX6 hown hK.1 hP 0 rfl rfl 7 (by decide) (hK.2.w ww_2_80 rfl _) (fun _ h9 => h9) rfl dX6_sitDown_41 ?_
          refine lv_iconst (v := (1 : Int32)) hx hb dX6_sitDown_44 (by decide) ?_
          refine lv_iload hx hb dX6_sitDown_45 (lv_at hl 4 rfl) ?_
          refine lv_ishl hx hb dX6_sitDown_47 ?_
          refine lv_ior hx hb dX6_sitDown_48 ?_
          refine va_put (D := D) (ci := 6) (v := .int ((rd_joined z0) ||| ((1 : Int32) <<< (v4 &&& 31)))) (ty := .int) (C := RX6) (T := TX6) (N := 11) hx hb hts kb_inX6 tyX6 tyX6_ok nmX6 hown hK.1 hP hD hS 0 rfl rfl 7 (by decide) (hK.2.w ww_2_80 rfl _) (fun _ h9 => h9) rfl (by decide +kernel) rfl rfl (Nat.le_of_ble_eq_true rfl) dX6_sitDown_49 (fun H locs hP hD hS => ?_)
          have hP : va_P D vwCl (w_Ride dA a (pa 0) (pa 1) (rd_set_joined z0 ((rd_joined z0) ||| ((1 : Int32) <<< (v4 &&& 31)))) ++ (w_Plan dA pa pl)) H := hP
          have hD : va_D A (w_Ride dA a (pa 0) (pa 1) (rd_set_joined z0 ((rd_joined z0) ||| ((1 : Int32) <<< (v4 &&& 31)))) ++ (w_Plan dA pa pl)) := hD
          refine lv_goto (tgt := 90) hx hb dX6_sitDown_52 (by decide) ?_
          refine lv_iinc (v := (v4 + (1 : Int32))) (lv' := [(4, .int (v4 + (1 : Int32))), (0, .ref (a 0)), (1, .int v1), (2, .int v2), (3, .int v3)]) hx hb dX6_sitDown_90 hl (k := 4) rfl (by rfl) (by decide) rfl (fun ls hl => ?_)
          refine lv_goto (tgt := 16) hx hb dX6_sitDown_93 (by decide) ?_
          exact ih _ _ _ _ _ _ _ _ hf hP hD hS (lv_sub hl [1, 2, 3, 4, 0] rfl)
  have E0 : ∀ (H : Heap) (locs : List Loc), va_P D vwCl (w_Ride dA a (pa 0) (pa 1) rd ++ (w_Plan dA pa pl)) H → va_D A (w_Ride dA a (pa 0) (pa 1) rd ++ (w_Plan dA pa pl)) → va_S A s.heap H locs → W p l e ({ frames := 1, cells := 0, slots := 0, locals := 21 } : Room) s m ([.ref (a 0), .int x0, .int x1] : List Value).toArray below meth c H locs 0 0 Q (F0 m 0 ls []) := by
    intro H locs hP hD hS
    rw [f_X6_sitDown] at hf
    refine lv_aload_n hx hb dX6_sitDown_0 rfl (lv_at hl 0 rfl) ?_
    refine va_get (D := D) (ci := 6) (v := .ref (pa 0)) (C := RX6) (T := TX6) (N := 11) hx hb hts kb_inX6 hown hK.1 hP 0 rfl rfl 0 (by decide) (hK.2.w ww_2_66 rfl _) (fun _ h9 => h9) rfl dX6_sitDown_1 ?_
    refine va_get (D := D) (ci := 5) (v := .ref (pa 1)) (C := RX5) (T := TX5) (N := 8) hx hb hts kb_inX5 hown hK.1 hP 9 rfl rfl 0 (by decide) (hK.2.w ww_1_214 rfl _) (fun _ h9 => h9) rfl dX6_sitDown_4 ?_
    refine va_get (D := D) (ci := 0) (v := .ref (pa 2)) (C := RX0) (T := TX0) (N := 8) hx hb hts kb_inX0 hown hK.1 hP 10 rfl rfl 7 (by decide) (hK.2.w ww_1_110 rfl _) (fun _ h9 => h9) rfl dX6_sitDown_7 ?_
    refine lv_iload_n hx hb dX6_sitDown_10 rfl (lv_at hl 2 rfl) ?_
    obtain ⟨h_1, hf⟩ := kb_if hf
    refine va_iald (D := D) hx hb hK.1 hP 11 0 rfl rfl h_1 dX6_sitDown_11 ?_
    refine lv_istore_n (lv' := [(3, .int ((cb_beside (pl_cab pl)) (x1).toNatClampNeg)), (0, .ref (a 0)), (1, .int x0), (2, .int x1)]) hx hb dX6_sitDown_12 rfl hl (by decide) rfl (fun ls hl => ?_)
    refine lv_iconst (v := (0 : Int32)) hx hb dX6_sitDown_13 (by decide) ?_
    refine lv_istore (lv' := [(4, .int (0 : Int32)), (3, .int ((cb_beside (pl_cab pl)) (x1).toNatClampNeg)), (0, .ref (a 0)), (1, .int x0), (2, .int x1)]) hx hb dX6_sitDown_14 hl (by decide) rfl (fun ls hl => ?_)
    exact B_16 4096 _ _ _ _ _ _ _ _ hf hP hD hS (lv_sub hl [2, 3, 4, 1, 0] rfl)
  exact E0 _ _ hP hD hS

noncomputable def f_X6_settle (rd : RideT) (pl : PlanT) (x0 : Int32) : Option (RideT) := (f_X6_bestSeats rd pl x0).bind fun r1 => (f_X6_chosen rd pl x0 r1).bind fun r2 => (if r2 = (-2 : Int32) then if kb_in? x0 8 then some ((rd_set_place rd (upd (rd_place rd) (x0).toNatClampNeg (101 : Int32)))) else none else (f_X6_sitDown rd pl x0 r2).bind fun r4 => some (r4))
set_option maxHeartbeats 4000000 in
set_option maxRecDepth 100000 in
theorem c_X6_settle (l : Launch) (D : va_G) (dA : Nat → ClassId) (sz : Nat) (a : Nat → Nat) (pa : Nat → Nat) (rd : RideT) (pl : PlanT) (x0 : Int32) (u0 : RideT) (hf : f_X6_settle rd pl x0 = some (u0)) : kb_Mv l yX6_settle cX6_settle 3 none ({ frames := 4, cells := 0, slots := 0, locals := 104 } : Room) D dA [.ref (a 0), .int x0] sz (w_Ride dA a (pa 0) (pa 1) rd ++ (w_Plan dA pa pl)) 0 0 (w_Ride dA a (pa 0) (pa 1) u0 ++ (w_Plan dA pa pl)) := by
  refine Met.ofW (cc := cX6_settle) (maxL := 3) (ret := none) (by decide) rfl ?_
  intro p e s m args below meth c s₁ B hml hv
  obtain ⟨rfl, hsz, hP, hK, hD0, hE⟩ := hv
  have hx := B.exec
  have hb := B.bytes
  have hr := B.returns
  have hown : s.vm.findClass RX6 = some m.cls := findClass_of_methodNamed B.named
  have hlocks := B.notSynchronized
  have hts : ∀ w ∈ kb_gw, w.before ([.ref (a 0), .int x0] : List Value).toArray s = true := fun w hw => hK.2.1 w hw _
  subst hsz
  have hD := hD0.self (sz := s.heap.size)
  generalize hAe : va_A (w_Ride dA a (pa 0) (pa 1) rd ++ (w_Plan dA pa pl)) s.heap.size = A at hD hE ⊢
  have hA : ∀ q : Nat, s.heap.size ≤ q → A q := fun q h => by rw [← hAe]; exact Or.inr h
  have hS : va_S A s.heap s.heap [] := va_S.rf
  have hl := lv_entry ([.ref (a 0), .int x0]) (n := 3) (Nat.le_of_ble_eq_true rfl)
  rw [lg_entry_eq]
  generalize (lg_sl ([.ref (a 0), .int x0]) ++ List.replicate (3 - (lg_sl ([.ref (a 0), .int x0])).length) Slot.unset).toArray = ls at hl ⊢
  have hl : lv_has ls 3 [(0, .ref (a 0)), (1, .int x0)] := hl
  generalize hQ : MQ below (va_Qv (fun (_ : Unit) => True) (kb_B D A (w_Ride dA a (pa 0) (pa 1) u0 ++ (w_Plan dA pa pl))) A) ([.ref (a 0), .int x0] : List Value).toArray s 0 0 A = Q
  show W p l e ({ frames := 4, cells := 0, slots := 0, locals := 104 } : Room) s m ([.ref (a 0), .int x0] : List Value).toArray below meth c s.heap [] 0 0 Q (F0 m 0 ls [])
  have RET : ∀ (w0 : RideT) (H : Heap) (locs : List Loc) (ls : Array Slot) (pc : Nat), some (w0) = some (u0) → va_P D vwCl (w_Ride dA a (pa 0) (pa 1) w0 ++ (w_Plan dA pa pl)) H → va_D A (w_Ride dA a (pa 0) (pa 1) w0 ++ (w_Plan dA pa pl)) → va_S A s.heap H locs → decode cX6_settle pc = .ok (.return_, 1) → W p l e ({ frames := 4, cells := 0, slots := 0, locals := 104 } : Room) s m ([.ref (a 0), .int x0] : List Value).toArray below meth c H locs 0 0 Q (F0 m pc ls []) := by
    intro w0 H locs ls pc hq hP hD hS hd
    cases hq
    rw [← hQ]
    exact W.vret hx hb hr (fun t ht hW => ⟨⟨(), rfl, trivial, by rw [ht]; exact hP, hD⟩, hS.F ht⟩) hS.2.2 hd
  have E0 : ∀ (H : Heap) (locs : List Loc), va_P D vwCl (w_Ride dA a (pa 0) (pa 1) rd ++ (w_Plan dA pa pl)) H → va_D A (w_Ride dA a (pa 0) (pa 1) rd ++ (w_Plan dA pa pl)) → va_S A s.heap H locs → W p l e ({ frames := 4, cells := 0, slots := 0, locals := 104 } : Room) s m ([.ref (a 0), .int x0] : List Value).toArray below meth c H locs 0 0 Q (F0 m 0 ls []) := by
    intro H locs hP hD hS
    rw [f_X6_settle] at hf
    refine lv_aload_n hx hb dX6_settle_0 rfl (lv_at hl 0 rfl) ?_
    refine lv_iload_n hx hb dX6_settle_1 rfl (lv_at hl 1 rfl) ?_
    refine lv_aload_n hx hb dX6_settle_2 rfl (lv_at hl 0 rfl) ?_
    refine lv_iload_n hx hb dX6_settle_3 rfl (lv_at hl 1 rfl) ?_
    obtain ⟨r1, hc1, hf⟩ := kb_bind hf
    refine kb_ci (ws2 := (w_Ride dA a (pa 0) (pa 1) rd ++ (w_Plan dA pa pl))) (kb_rV (n := 1) (As := [.int x0]) (rest := [.int x0, .ref (a 0)]) hx hb hml hown hK (c_X6_bestSeats l D dA H.size a pa rd pl x0 r1 hc1) ⟨ww_4_18, ww_4_15, ww_4_16, ww_4_17, ww_1_8, rfl, by decide, by decide⟩ rfl rfl (by decide +kernel) ⟨Nat.le_of_ble_eq_true rfl, Nat.le_of_ble_eq_true rfl⟩ hP hD hS hA hE [0, 1, 2, 3, 4, 5, 6, 7, 8, 9, 10, 11, 12, 13, 14, 15, 16, 17, 18, 19, 20, 21, 22, 23, 24, 25, 26, 27, 28, 29] rfl (by decide) 0 rfl rfl rfl hl.1 rfl (Nat.le_of_ble_eq_true rfl) dX6_settle_4 ⟨Nat.le_of_ble_eq_true rfl, Nat.le_of_ble_eq_true rfl⟩) hP hD hS hA [0, 1, 2, 3, 4, 5, 6, 7, 8, 9, 10, 11, 12, 13, 14, 15, 16, 17, 18, 19, 20, 21, 22, 23, 24, 25, 26, 27, 28, 29] [] [0, 1, 2, 3, 4, 5, 6, 7, 8, 9, 10, 11, 12, 13, 14, 15, 16, 17, 18, 19, 20, 21, 22, 23, 24, 25, 26, 27, 28, 29] rfl rfl (by decide) (by decide) rfl (by decide) (fun H locs hP hD hS => ?_)
    obtain ⟨r2, hc2, hf⟩ := kb_bind hf
    refine kb_ci (ws2 := (w_Ride dA a (pa 0) (pa 1) rd ++ (w_Plan dA pa pl))) (kb_rV (n := 2) (As := [.int x0, .int r1]) (rest := []) hx hb hml hown hK (c_X6_chosen l D dA H.size a pa rd pl x0 r1 r2 hc2) ⟨ww_4_51, ww_4_48, ww_4_49, ww_4_50, ww_1_8, rfl, by decide, by decide⟩ rfl rfl (by decide +kernel) ⟨Nat.le_of_ble_eq_true rfl, Nat.le_of_ble_eq_true rfl⟩ hP hD hS hA hE [0, 1, 2, 3, 4, 5, 6, 7, 8, 9, 10, 11, 12, 13, 14, 15, 16, 17, 18, 19, 20, 21, 22, 23, 24, 25, 26, 27, 28, 29] rfl (by decide) 0 rfl rfl rfl hl.1 rfl (Nat.le_of_ble_eq_true rfl) dX6_settle_7 ⟨Nat.le_of_ble_eq_true rfl, Nat.le_of_ble_eq_true rfl⟩) hP hD hS hA [0, 1, 2, 3, 4, 5, 6, 7, 8, 9, 10, 11, 12, 13, 14, 15, 16, 17, 18, 19, 20, 21, 22, 23, 24, 25, 26, 27, 28, 29] [] [0, 1, 2, 3, 4, 5, 6, 7, 8, 9, 10, 11, 12, 13, 14, 15, 16, 17, 18, 19, 20, 21, 22, 23, 24, 25, 26, 27, 28, 29] rfl rfl (by decide) (by decide) rfl (by decide) (fun H locs hP hD hS => ?_)
    refine lv_istore_n (lv' := [(2, .int r2), (0, .ref (a 0)), (1, .int x0)]) hx hb dX6_settle_10 rfl hl (by decide) rfl (fun ls hl => ?_)
    refine lv_iload_n hx hb dX6_settle_11 rfl (lv_at hl 0 rfl) ?_
    refine lv_bipush (v := (-2 : Int32)) hx hb dX6_settle_12 (by decide) ?_
    refine lv_icmp_ne (tgt := 28) hx hb dX6_settle_14 (by decide) (fun c_3 => ?_) (fun c_3 => ?_)
    · rw [if_neg c_3] at hf
      refine lv_aload_n hx hb dX6_settle_28 rfl (lv_at hl 1 rfl) ?_
      refine lv_iload_n hx hb dX6_settle_29 rfl (lv_at hl 2 rfl) ?_
      refine lv_iload_n hx hb dX6_settle_30 rfl (lv_at hl 0 rfl) ?_
      obtain ⟨r4, hc4, hf⟩ := kb_bind hf
      refine kb_cv (ws2 := (w_Ride dA a (pa 0) (pa 1) r4 ++ (w_Plan dA pa pl))) (kb_rV (n := 2) (As := [.int x0, .int r2]) (rest := []) hx hb hml hown hK (c_X6_sitDown l D dA H.size a pa rd pl x0 r2 r4 hc4) ⟨ww_4_5, ww_4_2, ww_4_3, ww_4_4, ww_1_8, rfl, by decide, by decide⟩ rfl rfl (by decide +kernel) ⟨Nat.le_of_ble_eq_true rfl, Nat.le_of_ble_eq_true rfl⟩ hP hD hS hA hE [0, 1, 2, 3, 4, 5, 6, 7, 8, 9, 10, 11, 12, 13, 14, 15, 16, 17, 18, 19, 20, 21, 22, 23, 24, 25, 26, 27, 28, 29] rfl (by decide) 0 rfl rfl rfl hl.1 rfl (Nat.le_of_ble_eq_true rfl) dX6_settle_31 ⟨Nat.le_of_ble_eq_true rfl, Nat.le_of_ble_eq_true rfl⟩) hP hD hS hA [0, 1, 2, 3, 4, 5, 6, 7, 8, 9, 10, 11, 12, 13, 14, 15, 16, 17, 18, 19, 20, 21, 22, 23, 24, 25, 26, 27, 28, 29] [] [0, 1, 2, 3, 4, 5, 6, 7, 8, 9, 10, 11, 12, 13, 14, 15, 16, 17, 18, 19, 20, 21, 22, 23, 24, 25, 26, 27, 28, 29] rfl rfl (by decide) (by decide) rfl (by decide) (fun H locs hP hD hS => ?_)
      exact RET _ H _ ls 34 hf hP hD hS dX6_settle_34
    · rw [if_pos c_3] at hf
      refine lv_aload_n hx hb dX6_settle_17 rfl (lv_at hl 1 rfl) ?_
      refine va_get (D := D) (ci := 6) (v := .ref (a 4)) (C := RX6) (T := TX6) (N := 11) hx hb hts kb_inX6 hown hK.1 hP 0 rfl rfl 2 (by decide) (hK.2.w ww_2_70 rfl _) (fun _ h9 => h9) rfl dX6_settle_18 ?_
      refine lv_iload_n hx hb dX6_settle_21 rfl (lv_at hl 2 rfl) ?_
      refine lv_bipush (v := (101 : Int32)) hx hb dX6_settle_22 (by decide) ?_
      obtain ⟨h_5, hf⟩ := kb_if hf
      refine va_iast (D := D) hx hb hK.1 hP hD hS 4 0 rfl rfl h_5 dX6_settle_24 (fun H locs hP hD hS => ?_)
      have hP : va_P D vwCl (w_Ride dA a (pa 0) (pa 1) (rd_set_place rd (upd (rd_place rd) (x0).toNatClampNeg (101 : Int32))) ++ (w_Plan dA pa pl)) H := hP
      have hD : va_D A (w_Ride dA a (pa 0) (pa 1) (rd_set_place rd (upd (rd_place rd) (x0).toNatClampNeg (101 : Int32))) ++ (w_Plan dA pa pl)) := hD
      refine lv_goto (tgt := 34) hx hb dX6_settle_25 (by decide) ?_
      exact RET _ H _ ls 34 hf hP hD hS dX6_settle_34
  exact E0 _ _ hP hD hS

noncomputable def f_X6_letOff_b67 (pl : PlanT) (k9 : Int32 → Int32 → Int32 → Int32 → RideT → Option (Int32 × RideT)) (v1 : Int32) (v2 : Int32) (v3 : Int32) (v4 : Int32) (z0 : RideT) : Option (Int32 × RideT) := k9 v1 v2 v3 (v4 + (1 : Int32)) z0
noncomputable def f_X6_letOff_b9 (pl : PlanT) : Nat → Int32 → Int32 → Int32 → Int32 → RideT → Option (Int32 × RideT)
  | 0, _, _, _, _, _ => none
  | n + 1, v1, v2, v3, v4, z0 => (if (pl_riderCount pl) ≤ v4 then (if v3 = 0 then some ((0 : Int32), z0) else some ((v1 + v2), z0)) else if kb_in? v4 8 then (if ((qr_off (pl_riders pl)) (v4).toNatClampNeg) = (rd_stops z0) then (f_X6_secondsOf z0 pl v4).bind fun r7 => (f_X6_getUp z0 pl v4).bind fun r8 => if kb_in? v4 8 then f_X6_letOff_b67 pl (f_X6_letOff_b9 pl n) (v1 + r7) v2 (1 : Int32) v4 (rd_set_place r8 (upd (rd_place r8) (v4).toNatClampNeg (102 : Int32))) else none else if kb_in? v4 8 then (if ((rd_place z0) (v4).toNatClampNeg) = (101 : Int32) then f_X6_letOff_b9 pl n v1 (v2 + (1 : Int32)) v3 (v4 + (1 : Int32)) z0 else f_X6_letOff_b9 pl n v1 v2 v3 (v4 + (1 : Int32)) z0) else none) else none)
noncomputable def f_X6_letOff (rd : RideT) (pl : PlanT) : Option (Int32 × RideT) := f_X6_letOff_b9 pl 4096 (0 : Int32) (0 : Int32) (0 : Int32) (0 : Int32) rd
set_option maxHeartbeats 4000000 in
set_option maxRecDepth 100000 in
theorem c_X6_letOff (l : Launch) (D : va_G) (dA : Nat → ClassId) (sz : Nat) (a : Nat → Nat) (pa : Nat → Nat) (rd : RideT) (pl : PlanT) (rv : Int32) (u0 : RideT) (hf : f_X6_letOff rd pl = some (rv, u0)) : kb_Mi l yX6_letOff cX6_letOff 5 (some .int) ({ frames := 3, cells := 0, slots := 0, locals := 66 } : Room) D dA [.ref (a 0)] sz (w_Ride dA a (pa 0) (pa 1) rd ++ (w_Plan dA pa pl)) 0 0 rv (w_Ride dA a (pa 0) (pa 1) u0 ++ (w_Plan dA pa pl)) := by
  refine Met.ofW (cc := cX6_letOff) (maxL := 5) (ret := (some .int)) (by decide) rfl ?_
  intro p e s m args below meth c s₁ B hml hv
  obtain ⟨rfl, hsz, hP, hK, hD0, hE⟩ := hv
  have hx := B.exec
  have hb := B.bytes
  have hr := B.returns
  have hown : s.vm.findClass RX6 = some m.cls := findClass_of_methodNamed B.named
  have hlocks := B.notSynchronized
  have hts : ∀ w ∈ kb_gw, w.before ([.ref (a 0)] : List Value).toArray s = true := fun w hw => hK.2.1 w hw _
  subst hsz
  have hD := hD0.self (sz := s.heap.size)
  generalize hAe : va_A (w_Ride dA a (pa 0) (pa 1) rd ++ (w_Plan dA pa pl)) s.heap.size = A at hD hE ⊢
  have hA : ∀ q : Nat, s.heap.size ≤ q → A q := fun q h => by rw [← hAe]; exact Or.inr h
  have hS : va_S A s.heap s.heap [] := va_S.rf
  have hl := lv_entry ([.ref (a 0)]) (n := 5) (Nat.le_of_ble_eq_true rfl)
  rw [lg_entry_eq]
  generalize (lg_sl ([.ref (a 0)]) ++ List.replicate (5 - (lg_sl ([.ref (a 0)])).length) Slot.unset).toArray = ls at hl ⊢
  have hl : lv_has ls 5 [(0, .ref (a 0))] := hl
  generalize hQ : MQ below (va_Qi (fun r (_ : Unit) => r = rv) (kb_B D A (w_Ride dA a (pa 0) (pa 1) u0 ++ (w_Plan dA pa pl))) A) ([.ref (a 0)] : List Value).toArray s 0 0 A = Q
  show W p l e ({ frames := 3, cells := 0, slots := 0, locals := 66 } : Room) s m ([.ref (a 0)] : List Value).toArray below meth c s.heap [] 0 0 Q (F0 m 0 ls [])
  have RET : ∀ (r2 : Int32) (w0 : RideT) (H : Heap) (locs : List Loc) (ls : Array Slot) (pc : Nat), some (r2, w0) = some (rv, u0) → va_P D vwCl (w_Ride dA a (pa 0) (pa 1) w0 ++ (w_Plan dA pa pl)) H → va_D A (w_Ride dA a (pa 0) (pa 1) w0 ++ (w_Plan dA pa pl)) → va_S A s.heap H locs → decode cX6_letOff pc = .ok (.ireturn, 1) → W p l e ({ frames := 3, cells := 0, slots := 0, locals := 66 } : Room) s m ([.ref (a 0)] : List Value).toArray below meth c H locs 0 0 Q (F0 m pc ls [.int r2]) := by
    intro r2 w0 H locs ls pc hq hP hD hS hd
    cases hq
    rw [← hQ]
    exact W.iret hx hb hr (fun t ht hW => ⟨⟨_, (), rfl, rfl, by rw [ht]; exact hP, hD⟩, hS.F ht⟩) hS.2.2 hd
  have B_67 : ∀ (k9 : Int32 → Int32 → Int32 → Int32 → RideT → Option (Int32 × RideT)) (hk9 : ∀ (v1 : Int32) (v2 : Int32) (v3 : Int32) (v4 : Int32) (z0 : RideT) (H : Heap) (locs : List Loc) (ls : Array Slot), k9 v1 v2 v3 v4 z0 = some (rv, u0) → va_P D vwCl (w_Ride dA a (pa 0) (pa 1) z0 ++ (w_Plan dA pa pl)) H → va_D A (w_Ride dA a (pa 0) (pa 1) z0 ++ (w_Plan dA pa pl)) → va_S A s.heap H locs → lv_has ls 5 [(0, .ref (a 0)), (1, .int v1), (2, .int v2), (3, .int v3), (4, .int v4)] → W p l e ({ frames := 3, cells := 0, slots := 0, locals := 66 } : Room) s m ([.ref (a 0)] : List Value).toArray below meth c H locs 0 0 Q (F0 m 9 ls [])) (v1 : Int32) (v2 : Int32) (v3 : Int32) (v4 : Int32) (z0 : RideT) (H : Heap) (locs : List Loc) (ls : Array Slot), f_X6_letOff_b67 pl k9 v1 v2 v3 v4 z0 = some (rv, u0) → va_P D vwCl (w_Ride dA a (pa 0) (pa 1) z0 ++ (w_Plan dA pa pl)) H → va_D A (w_Ride dA a (pa 0) (pa 1) z0 ++ (w_Plan dA pa pl)) → va_S A s.heap H locs → lv_has ls 5 [(0, .ref (a 0)), (1, .int v1), (2, .int v2), (3, .int v3), (4, .int v4)] → W p l e ({ frames := 3, cells := 0, slots := 0, locals := 66 } : Room) s m ([.ref (a 0)] : List Value).toArray below meth c H locs 0 0 Q (F0 m 67 ls []) := by
    intro k9 hk9 v1 v2 v3 v4 z0 H locs ls hf hP hD hS hl
    rw [f_X6_letOff_b67] at hf
    refine lv_goto (tgt := 85) hx hb dX6_letOff_67 (by decide) ?_
    refine lv_iinc (v := (v4 + (1 : Int32))) (lv' := [(4, .int (v4 + (1 : Int32))), (0, .ref (a 0)), (1, .int v1), (2, .int v2), (3, .int v3)]) hx hb dX6_letOff_85 hl (k := 4) rfl (by rfl) (by decide) rfl (fun ls hl => ?_)
    refine lv_goto (tgt := 9) hx hb dX6_letOff_88 (by decide) ?_
    exact hk9 _ _ _ _ _ _ _ _ hf hP hD hS (lv_sub hl [1, 2, 3, 4, 0] rfl)
  have B_9 : ∀ (n : Nat) (v1 : Int32) (v2 : Int32) (v3 : Int32) (v4 : Int32) (z0 : RideT) (H : Heap) (locs : List Loc) (ls : Array Slot), f_X6_letOff_b9 pl n v1 v2 v3 v4 z0 = some (rv, u0) → va_P D vwCl (w_Ride dA a (pa 0) (pa 1) z0 ++ (w_Plan dA pa pl)) H → va_D A (w_Ride dA a (pa 0) (pa 1) z0 ++ (w_Plan dA pa pl)) → va_S A s.heap H locs → lv_has ls 5 [(0, .ref (a 0)), (1, .int v1), (2, .int v2), (3, .int v3), (4, .int v4)] → W p l e ({ frames := 3, cells := 0, slots := 0, locals := 66 } : Room) s m ([.ref (a 0)] : List Value).toArray below meth c H locs 0 0 Q (F0 m 9 ls []) := by
    intro n
    induction n with
    | zero =>
      intro v1 v2 v3 v4 z0 H locs ls hf
      exact absurd hf (by simp [f_X6_letOff_b9])
    | succ n ih =>
      intro v1 v2 v3 v4 z0 H locs ls hf hP hD hS hl
      rw [f_X6_letOff_b9] at hf
      refine lv_iload hx hb dX6_letOff_9 (lv_at hl 4 rfl) ?_
      refine lv_aload_n hx hb dX6_letOff_11 rfl (lv_at hl 0 rfl) ?_
      refine va_get (D := D) (ci := 6) (v := .ref (pa 0)) (C := RX6) (T := TX6) (N := 11) hx hb hts kb_inX6 hown hK.1 hP 0 rfl rfl 0 (by decide) (hK.2.w ww_2_66 rfl _) (fun _ h9 => h9) rfl dX6_letOff_12 ?_
      refine va_get (D := D) (ci := 5) (v := .int (pl_riderCount pl)) (C := RX5) (T := TX5) (N := 8) hx hb hts kb_inX5 hown hK.1 hP 9 rfl rfl 5 (by decide) (hK.2.w ww_1_234 rfl _) (fun _ h9 => h9) rfl dX6_letOff_15 ?_
      refine lv_icmp_ge (tgt := 91) hx hb dX6_letOff_18 (by decide) (fun c_1 => ?_) (fun c_1 => ?_)
      · rw [if_pos c_1] at hf
        refine lv_iload_n hx hb dX6_letOff_91 rfl (lv_at hl 3 rfl) ?_
        refine lv_if_eq (tgt := 101) hx hb dX6_letOff_92 (by decide) (fun c_2 => ?_) (fun c_2 => ?_)
        · rw [if_pos c_2] at hf
          refine lv_iconst (v := (0 : Int32)) hx hb dX6_letOff_101 (by decide) ?_
          exact RET _ _ H _ ls 102 hf hP hD hS dX6_letOff_102
        · rw [if_neg c_2] at hf
          refine lv_iload_n hx hb dX6_letOff_95 rfl (lv_at hl 1 rfl) ?_
          refine lv_iload_n hx hb dX6_letOff_96 rfl (lv_at hl 2 rfl) ?_
          refine lv_iadd hx hb dX6_letOff_97 ?_
          refine lv_goto (tgt := 102) hx hb dX6_letOff_98 (by decide) ?_
          exact RET _ _ H _ ls 102 hf hP hD hS dX6_letOff_102
      · rw [if_neg c_1] at hf
        refine lv_aload_n hx hb dX6_letOff_21 rfl (lv_at hl 0 rfl) ?_
        refine va_get (D := D) (ci := 6) (v := .ref (pa 0)) (C := RX6) (T := TX6) (N := 11) hx hb hts kb_inX6 hown hK.1 hP 0 rfl rfl 0 (by decide) (hK.2.w ww_2_66 rfl _) (fun _ h9 => h9) rfl dX6_letOff_22 ?_
        refine va_get (D := D) (ci := 5) (v := .ref (pa 12)) (C := RX5) (T := TX5) (N := 8) hx hb hts kb_inX5 hown hK.1 hP 9 rfl rfl 2 (by decide) (hK.2.w ww_1_223 rfl _) (fun _ h9 => h9) rfl dX6_letOff_25 ?_
        refine lv_iload hx hb dX6_letOff_28 (lv_at hl 4 rfl) ?_
        obtain ⟨h_3, hf⟩ := kb_if hf
        refine va_aldq (D := D) hx hb hK.1 hP 21 5 rfl rfl h_3 dX6_letOff_30 ?_
        show W p l e ({ frames := 3, cells := 0, slots := 0, locals := 66 } : Room) s m ([.ref (a 0)] : List Value).toArray below meth c _ _ 0 0 Q (F0 m 31 _ [.ref (pa (13 + (v4).toNatClampNeg))])
        refine va_get (D := D) (ci := 7) (v := .int ((qr_off (pl_riders pl)) (v4).toNatClampNeg)) (C := RX7) (T := TX7) (N := 10) hx hb hts kb_inX7 hown hK.1 hP (9 + (13 + (v4).toNatClampNeg)) (kb_at rfl (at_Plan_13 dA pa pl (v4).toNatClampNeg (kb_inlt h_3))) rfl 2 (by decide) (hK.2.w ww_1_167 rfl _) (fun _ h9 => h9) rfl dX6_letOff_31 ?_
        refine lv_aload_n hx hb dX6_letOff_34 rfl (lv_at hl 0 rfl) ?_
        refine va_get (D := D) (ci := 6) (v := .int (rd_stops z0)) (C := RX6) (T := TX6) (N := 11) hx hb hts kb_inX6 hown hK.1 hP 0 rfl rfl 10 (by decide) (hK.2.w ww_2_84 rfl _) (fun _ h9 => h9) rfl dX6_letOff_35 ?_
        refine lv_icmp_ne (tgt := 70) hx hb dX6_letOff_38 (by decide) (fun c_4 => ?_) (fun c_4 => ?_)
        · rw [if_neg c_4] at hf
          refine lv_aload_n hx hb dX6_letOff_70 rfl (lv_at hl 0 rfl) ?_
          refine va_get (D := D) (ci := 6) (v := .ref (a 4)) (C := RX6) (T := TX6) (N := 11) hx hb hts kb_inX6 hown hK.1 hP 0 rfl rfl 2 (by decide) (hK.2.w ww_2_70 rfl _) (fun _ h9 => h9) rfl dX6_letOff_71 ?_
          refine lv_iload hx hb dX6_letOff_74 (lv_at hl 4 rfl) ?_
          obtain ⟨h_5, hf⟩ := kb_if hf
          refine va_iald (D := D) hx hb hK.1 hP 4 0 rfl rfl h_5 dX6_letOff_76 ?_
          refine lv_bipush (v := (101 : Int32)) hx hb dX6_letOff_77 (by decide) ?_
          refine lv_icmp_ne (tgt := 85) hx hb dX6_letOff_79 (by decide) (fun c_6 => ?_) (fun c_6 => ?_)
          · rw [if_neg c_6] at hf
            refine lv_iinc (v := (v4 + (1 : Int32))) (lv' := [(4, .int (v4 + (1 : Int32))), (0, .ref (a 0)), (1, .int v1), (2, .int v2), (3, .int v3)]) hx hb dX6_letOff_85 hl (k := 4) rfl (by rfl) (by decide) rfl (fun ls hl => ?_)
            refine lv_goto (tgt := 9) hx hb dX6_letOff_88 (by decide) ?_
            exact ih _ _ _ _ _ _ _ _ hf hP hD hS (lv_sub hl [1, 2, 3, 4, 0] rfl)
          · rw [if_pos c_6] at hf
            refine lv_iinc (v := (v2 + (1 : Int32))) (lv' := [(2, .int (v2 + (1 : Int32))), (0, .ref (a 0)), (1, .int v1), (3, .int v3), (4, .int v4)]) hx hb dX6_letOff_82 hl (k := 2) rfl (by rfl) (by decide) rfl (fun ls hl => ?_)
            refine lv_iinc (v := (v4 + (1 : Int32))) (lv' := [(4, .int (v4 + (1 : Int32))), (2, .int (v2 + (1 : Int32))), (0, .ref (a 0)), (1, .int v1), (3, .int v3)]) hx hb dX6_letOff_85 hl (k := 4) rfl (by rfl) (by decide) rfl (fun ls hl => ?_)
            refine lv_goto (tgt := 9) hx hb dX6_letOff_88 (by decide) ?_
            exact ih _ _ _ _ _ _ _ _ hf hP hD hS (lv_sub hl [2, 3, 1, 4, 0] rfl)
        · rw [if_pos c_4] at hf
          refine lv_iconst (v := (1 : Int32)) hx hb dX6_letOff_41 (by decide) ?_
          refine lv_istore_n (lv' := [(3, .int (1 : Int32)), (0, .ref (a 0)), (1, .int v1), (2, .int v2), (4, .int v4)]) hx hb dX6_letOff_42 rfl hl (by decide) rfl (fun ls hl => ?_)
          refine lv_iload_n hx hb dX6_letOff_43 rfl (lv_at hl 2 rfl) ?_
          refine lv_aload_n hx hb dX6_letOff_44 rfl (lv_at hl 1 rfl) ?_
          refine lv_iload hx hb dX6_letOff_45 (lv_at hl 4 rfl) ?_
          obtain ⟨r7, hc7, hf⟩ := kb_bind hf
          refine kb_ci (ws2 := (w_Ride dA a (pa 0) (pa 1) z0 ++ (w_Plan dA pa pl))) (kb_rV (n := 1) (As := [.int v4]) (rest := [.int v1]) hx hb hml hown hK (c_X6_secondsOf l D dA H.size a pa z0 pl v4 r7 hc7) ⟨ww_3_208, ww_3_205, ww_3_207, ws_24, ww_1_8, rfl, by decide, by decide⟩ rfl rfl (by decide +kernel) ⟨Nat.le_of_ble_eq_true rfl, Nat.le_of_ble_eq_true rfl⟩ hP hD hS hA hE [0, 1, 2, 3, 4, 5, 6, 7, 8, 9, 10, 11, 12, 13, 14, 15, 16, 17, 18, 19, 20, 21, 22, 23, 24, 25, 26, 27, 28, 29] rfl (by decide) 0 rfl rfl rfl hl.1 rfl (Nat.le_of_ble_eq_true rfl) dX6_letOff_47 ⟨Nat.le_of_ble_eq_true rfl, Nat.le_of_ble_eq_true rfl⟩) hP hD hS hA [0, 1, 2, 3, 4, 5, 6, 7, 8, 9, 10, 11, 12, 13, 14, 15, 16, 17, 18, 19, 20, 21, 22, 23, 24, 25, 26, 27, 28, 29] [] [0, 1, 2, 3, 4, 5, 6, 7, 8, 9, 10, 11, 12, 13, 14, 15, 16, 17, 18, 19, 20, 21, 22, 23, 24, 25, 26, 27, 28, 29] rfl rfl (by decide) (by decide) rfl (by decide) (fun H locs hP hD hS => ?_)
          refine lv_iadd hx hb dX6_letOff_50 ?_
          refine lv_istore_n (lv' := [(1, .int (v1 + r7)), (3, .int (1 : Int32)), (0, .ref (a 0)), (2, .int v2), (4, .int v4)]) hx hb dX6_letOff_51 rfl hl (by decide) rfl (fun ls hl => ?_)
          refine lv_aload_n hx hb dX6_letOff_52 rfl (lv_at hl 2 rfl) ?_
          refine lv_iload hx hb dX6_letOff_53 (lv_at hl 4 rfl) ?_
          obtain ⟨r8, hc8, hf⟩ := kb_bind hf
          refine kb_cv (ws2 := (w_Ride dA a (pa 0) (pa 1) r8 ++ (w_Plan dA pa pl))) (kb_rV (n := 1) (As := [.int v4]) (rest := []) hx hb hml hown hK (c_X6_getUp l D dA H.size a pa z0 pl v4 r8 hc8) ⟨ww_3_233, ww_3_230, ww_3_232, ws_25, ww_1_8, rfl, by decide, by decide⟩ rfl rfl (by decide +kernel) ⟨Nat.le_of_ble_eq_true rfl, Nat.le_of_ble_eq_true rfl⟩ hP hD hS hA hE [0, 1, 2, 3, 4, 5, 6, 7, 8, 9, 10, 11, 12, 13, 14, 15, 16, 17, 18, 19, 20, 21, 22, 23, 24, 25, 26, 27, 28, 29] rfl (by decide) 0 rfl rfl rfl hl.1 rfl (Nat.le_of_ble_eq_true rfl) dX6_letOff_55 ⟨Nat.le_of_ble_eq_true rfl, Nat.le_of_ble_eq_true rfl⟩) hP hD hS hA [0, 1, 2, 3, 4, 5, 6, 7, 8, 9, 10, 11, 12, 13, 14, 15, 16, 17, 18, 19, 20, 21, 22, 23, 24, 25, 26, 27, 28, 29] [] [0, 1, 2, 3, 4, 5, 6, 7, 8, 9, 10, 11, 12, 13, 14, 15, 16, 17, 18, 19, 20, 21, 22, 23, 24, 25, 26, 27, 28, 29] rfl rfl (by decide) (by decide) rfl (by decide) (fun H locs hP hD hS => ?_)
          refine lv_aload_n hx hb dX6_letOff_58 rfl (lv_at hl 2 rfl) ?_
          refine va_get (D := D) (ci := 6) (v := .ref (a 4)) (C := RX6) (T := TX6) (N := 11) hx hb hts kb_inX6 hown hK.1 hP 0 rfl rfl 2 (by decide) (hK.2.w ww_2_70 rfl _) (fun _ h9 => h9) rfl dX6_letOff_59 ?_
          refine lv_iload hx hb dX6_letOff_62 (lv_at hl 4 rfl) ?_
          refine lv_bipush (v := (102 : Int32)) hx hb dX6_letOff_64 (by decide) ?_
          obtain ⟨h_9, hf⟩ := kb_if hf
          refine va_iast (D := D) hx hb hK.1 hP hD hS 4 0 rfl rfl h_9 dX6_letOff_66 (fun H locs hP hD hS => ?_)
          have hP : va_P D vwCl (w_Ride dA a (pa 0) (pa 1) (rd_set_place r8 (upd (rd_place r8) (v4).toNatClampNeg (102 : Int32))) ++ (w_Plan dA pa pl)) H := hP
          have hD : va_D A (w_Ride dA a (pa 0) (pa 1) (rd_set_place r8 (upd (rd_place r8) (v4).toNatClampNeg (102 : Int32))) ++ (w_Plan dA pa pl)) := hD
          exact B_67 (f_X6_letOff_b9 pl n) ih _ _ _ _ _ _ _ _ hf hP hD hS (lv_sub hl [2, 0, 3, 1, 4] rfl)
  have E0 : ∀ (H : Heap) (locs : List Loc), va_P D vwCl (w_Ride dA a (pa 0) (pa 1) rd ++ (w_Plan dA pa pl)) H → va_D A (w_Ride dA a (pa 0) (pa 1) rd ++ (w_Plan dA pa pl)) → va_S A s.heap H locs → W p l e ({ frames := 3, cells := 0, slots := 0, locals := 66 } : Room) s m ([.ref (a 0)] : List Value).toArray below meth c H locs 0 0 Q (F0 m 0 ls []) := by
    intro H locs hP hD hS
    rw [f_X6_letOff] at hf
    refine lv_iconst (v := (0 : Int32)) hx hb dX6_letOff_0 (by decide) ?_
    refine lv_istore_n (lv' := [(1, .int (0 : Int32)), (0, .ref (a 0))]) hx hb dX6_letOff_1 rfl hl (by decide) rfl (fun ls hl => ?_)
    refine lv_iconst (v := (0 : Int32)) hx hb dX6_letOff_2 (by decide) ?_
    refine lv_istore_n (lv' := [(2, .int (0 : Int32)), (1, .int (0 : Int32)), (0, .ref (a 0))]) hx hb dX6_letOff_3 rfl hl (by decide) rfl (fun ls hl => ?_)
    refine lv_iconst (v := (0 : Int32)) hx hb dX6_letOff_4 (by decide) ?_
    refine lv_istore_n (lv' := [(3, .int (0 : Int32)), (2, .int (0 : Int32)), (1, .int (0 : Int32)), (0, .ref (a 0))]) hx hb dX6_letOff_5 rfl hl (by decide) rfl (fun ls hl => ?_)
    refine lv_iconst (v := (0 : Int32)) hx hb dX6_letOff_6 (by decide) ?_
    refine lv_istore (lv' := [(4, .int (0 : Int32)), (3, .int (0 : Int32)), (2, .int (0 : Int32)), (1, .int (0 : Int32)), (0, .ref (a 0))]) hx hb dX6_letOff_7 hl (by decide) rfl (fun ls hl => ?_)
    exact B_9 4096 _ _ _ _ _ _ _ _ hf hP hD hS (lv_sub hl [4, 3, 2, 1, 0] rfl)
  exact E0 _ _ hP hD hS

noncomputable def f_X6_giveSeats_b98 (pl : PlanT) (k4 : Int32 → Int32 → RideT → Option (Int32 × RideT)) (v1 : Int32) (v2 : Int32) (z0 : RideT) : Option (Int32 × RideT) := k4 v1 (v2 + (1 : Int32)) z0
noncomputable def f_X6_giveSeats_b75 (pl : PlanT) (k4 : Int32 → Int32 → RideT → Option (Int32 × RideT)) (v1 : Int32) (v2 : Int32) (v3 : Int32) (v4 : Int32) (z0 : RideT) : Option (Int32 × RideT) := (f_X6_sitDown (rd_set_gifts z0 ((rd_gifts z0) + (1 : Int32))) pl v2 v4).bind fun r11 => f_X6_giveSeats_b98 pl k4 (v1 ||| ((1 : Int32) <<< (v3 &&& 31))) v2 r11
noncomputable def f_X6_giveSeats_b4 (pl : PlanT) : Nat → Int32 → Int32 → RideT → Option (Int32 × RideT)
  | 0, _, _, _ => none
  | n + 1, v1, v2, z0 => (if (pl_riderCount pl) ≤ v2 then some (v1, z0) else if kb_in? v2 8 then (if ((rd_place z0) (v2).toNatClampNeg) = (101 : Int32) then if kb_in? v2 8 then (if ((qr_age (pl_riders pl)) (v2).toNatClampNeg) < (65 : Int32) then f_X6_giveSeats_b4 pl n v1 (v2 + (1 : Int32)) z0 else (f_X6_youngest z0 pl).bind fun r6 => (if r6 = (-2 : Int32) then f_X6_giveSeats_b4 pl n v1 (v2 + (1 : Int32)) z0 else if kb_in? r6 8 then (f_X6_getUp z0 pl r6).bind fun r9 => if kb_in? r6 8 then f_X6_giveSeats_b75 pl (f_X6_giveSeats_b4 pl n) v1 v2 r6 ((rd_place z0) (r6).toNatClampNeg) (rd_set_place r9 (upd (rd_place r9) (r6).toNatClampNeg (101 : Int32))) else none else none)) else none else f_X6_giveSeats_b4 pl n v1 (v2 + (1 : Int32)) z0) else none)
noncomputable def f_X6_giveSeats (rd : RideT) (pl : PlanT) : Option (Int32 × RideT) := f_X6_giveSeats_b4 pl 4096 (0 : Int32) (0 : Int32) rd
set_option maxHeartbeats 4000000 in
set_option maxRecDepth 100000 in
theorem c_X6_giveSeats (l : Launch) (D : va_G) (dA : Nat → ClassId) (sz : Nat) (a : Nat → Nat) (pa : Nat → Nat) (rd : RideT) (pl : PlanT) (rv : Int32) (u0 : RideT) (hf : f_X6_giveSeats rd pl = some (rv, u0)) : kb_Mi l yX6_giveSeats cX6_giveSeats 5 (some .int) ({ frames := 2, cells := 0, slots := 0, locals := 45 } : Room) D dA [.ref (a 0)] sz (w_Ride dA a (pa 0) (pa 1) rd ++ (w_Plan dA pa pl)) 0 0 rv (w_Ride dA a (pa 0) (pa 1) u0 ++ (w_Plan dA pa pl)) := by
  refine Met.ofW (cc := cX6_giveSeats) (maxL := 5) (ret := (some .int)) (by decide) rfl ?_
  intro p e s m args below meth c s₁ B hml hv
  obtain ⟨rfl, hsz, hP, hK, hD0, hE⟩ := hv
  have hx := B.exec
  have hb := B.bytes
  have hr := B.returns
  have hown : s.vm.findClass RX6 = some m.cls := findClass_of_methodNamed B.named
  have hlocks := B.notSynchronized
  have hts : ∀ w ∈ kb_gw, w.before ([.ref (a 0)] : List Value).toArray s = true := fun w hw => hK.2.1 w hw _
  subst hsz
  have hD := hD0.self (sz := s.heap.size)
  generalize hAe : va_A (w_Ride dA a (pa 0) (pa 1) rd ++ (w_Plan dA pa pl)) s.heap.size = A at hD hE ⊢
  have hA : ∀ q : Nat, s.heap.size ≤ q → A q := fun q h => by rw [← hAe]; exact Or.inr h
  have hS : va_S A s.heap s.heap [] := va_S.rf
  have hl := lv_entry ([.ref (a 0)]) (n := 5) (Nat.le_of_ble_eq_true rfl)
  rw [lg_entry_eq]
  generalize (lg_sl ([.ref (a 0)]) ++ List.replicate (5 - (lg_sl ([.ref (a 0)])).length) Slot.unset).toArray = ls at hl ⊢
  have hl : lv_has ls 5 [(0, .ref (a 0))] := hl
  generalize hQ : MQ below (va_Qi (fun r (_ : Unit) => r = rv) (kb_B D A (w_Ride dA a (pa 0) (pa 1) u0 ++ (w_Plan dA pa pl))) A) ([.ref (a 0)] : List Value).toArray s 0 0 A = Q
  show W p l e ({ frames := 2, cells := 0, slots := 0, locals := 45 } : Room) s m ([.ref (a 0)] : List Value).toArray below meth c s.heap [] 0 0 Q (F0 m 0 ls [])
  have RET : ∀ (r2 : Int32) (w0 : RideT) (H : Heap) (locs : List Loc) (ls : Array Slot) (pc : Nat), some (r2, w0) = some (rv, u0) → va_P D vwCl (w_Ride dA a (pa 0) (pa 1) w0 ++ (w_Plan dA pa pl)) H → va_D A (w_Ride dA a (pa 0) (pa 1) w0 ++ (w_Plan dA pa pl)) → va_S A s.heap H locs → decode cX6_giveSeats pc = .ok (.ireturn, 1) → W p l e ({ frames := 2, cells := 0, slots := 0, locals := 45 } : Room) s m ([.ref (a 0)] : List Value).toArray below meth c H locs 0 0 Q (F0 m pc ls [.int r2]) := by
    intro r2 w0 H locs ls pc hq hP hD hS hd
    cases hq
    rw [← hQ]
    exact W.iret hx hb hr (fun t ht hW => ⟨⟨_, (), rfl, rfl, by rw [ht]; exact hP, hD⟩, hS.F ht⟩) hS.2.2 hd
  have B_98 : ∀ (k4 : Int32 → Int32 → RideT → Option (Int32 × RideT)) (hk4 : ∀ (v1 : Int32) (v2 : Int32) (z0 : RideT) (H : Heap) (locs : List Loc) (ls : Array Slot), k4 v1 v2 z0 = some (rv, u0) → va_P D vwCl (w_Ride dA a (pa 0) (pa 1) z0 ++ (w_Plan dA pa pl)) H → va_D A (w_Ride dA a (pa 0) (pa 1) z0 ++ (w_Plan dA pa pl)) → va_S A s.heap H locs → lv_has ls 5 [(0, .ref (a 0)), (1, .int v1), (2, .int v2)] → W p l e ({ frames := 2, cells := 0, slots := 0, locals := 45 } : Room) s m ([.ref (a 0)] : List Value).toArray below meth c H locs 0 0 Q (F0 m 4 ls [])) (v1 : Int32) (v2 : Int32) (z0 : RideT) (H : Heap) (locs : List Loc) (ls : Array Slot), f_X6_giveSeats_b98 pl k4 v1 v2 z0 = some (rv, u0) → va_P D vwCl (w_Ride dA a (pa 0) (pa 1) z0 ++ (w_Plan dA pa pl)) H → va_D A (w_Ride dA a (pa 0) (pa 1) z0 ++ (w_Plan dA pa pl)) → va_S A s.heap H locs → lv_has ls 5 [(0, .ref (a 0)), (1, .int v1), (2, .int v2)] → W p l e ({ frames := 2, cells := 0, slots := 0, locals := 45 } : Room) s m ([.ref (a 0)] : List Value).toArray below meth c H locs 0 0 Q (F0 m 98 ls []) := by
    intro k4 hk4 v1 v2 z0 H locs ls hf hP hD hS hl
    rw [f_X6_giveSeats_b98] at hf
    refine lv_iinc (v := (v2 + (1 : Int32))) (lv' := [(2, .int (v2 + (1 : Int32))), (0, .ref (a 0)), (1, .int v1)]) hx hb dX6_giveSeats_98 hl (k := 2) rfl (by rfl) (by decide) rfl (fun ls hl => ?_)
    refine lv_goto (tgt := 4) hx hb dX6_giveSeats_101 (by decide) ?_
    exact hk4 _ _ _ _ _ _ hf hP hD hS (lv_sub hl [1, 2, 0] rfl)
  have B_75 : ∀ (k4 : Int32 → Int32 → RideT → Option (Int32 × RideT)) (hk4 : ∀ (v1 : Int32) (v2 : Int32) (z0 : RideT) (H : Heap) (locs : List Loc) (ls : Array Slot), k4 v1 v2 z0 = some (rv, u0) → va_P D vwCl (w_Ride dA a (pa 0) (pa 1) z0 ++ (w_Plan dA pa pl)) H → va_D A (w_Ride dA a (pa 0) (pa 1) z0 ++ (w_Plan dA pa pl)) → va_S A s.heap H locs → lv_has ls 5 [(0, .ref (a 0)), (1, .int v1), (2, .int v2)] → W p l e ({ frames := 2, cells := 0, slots := 0, locals := 45 } : Room) s m ([.ref (a 0)] : List Value).toArray below meth c H locs 0 0 Q (F0 m 4 ls [])) (v1 : Int32) (v2 : Int32) (v3 : Int32) (v4 : Int32) (z0 : RideT) (H : Heap) (locs : List Loc) (ls : Array Slot), f_X6_giveSeats_b75 pl k4 v1 v2 v3 v4 z0 = some (rv, u0) → va_P D vwCl (w_Ride dA a (pa 0) (pa 1) z0 ++ (w_Plan dA pa pl)) H → va_D A (w_Ride dA a (pa 0) (pa 1) z0 ++ (w_Plan dA pa pl)) → va_S A s.heap H locs → lv_has ls 5 [(0, .ref (a 0)), (1, .int v1), (2, .int v2), (3, .int v3), (4, .int v4)] → W p l e ({ frames := 2, cells := 0, slots := 0, locals := 45 } : Room) s m ([.ref (a 0)] : List Value).toArray below meth c H locs 0 0 Q (F0 m 75 ls []) := by
    intro k4 hk4 v1 v2 v3 v4 z0 H locs ls hf hP hD hS hl
    rw [f_X6_giveSeats_b75] at hf
    refine lv_iload_n hx hb dX6_giveSeats_75 rfl (lv_at hl 1 rfl) ?_
    refine lv_iconst (v := (1 : Int32)) hx hb dX6_giveSeats_76 (by decide) ?_
    refine lv_iload_n hx hb dX6_giveSeats_77 rfl (lv_at hl 3 rfl) ?_
    refine lv_ishl hx hb dX6_giveSeats_78 ?_
    refine lv_ior hx hb dX6_giveSeats_79 ?_
    refine lv_istore_n (lv' := [(1, .int (v1 ||| ((1 : Int32) <<< (v3 &&& 31)))), (0, .ref (a 0)), (2, .int v2), (3, .int v3), (4, .int v4)]) hx hb dX6_giveSeats_80 rfl hl (by decide) rfl (fun ls hl => ?_)
    refine lv_aload_n hx hb dX6_giveSeats_81 rfl (lv_at hl 1 rfl) ?_
    refine lv_dup hx hb dX6_giveSeats_82 rfl ?_
    refine va_get (D := D) (ci := 6) (v := .int (rd_gifts z0)) (C := RX6) (T := TX6) (N := 11) hx hb hts kb_inX6 hown hK.1 hP 0 rfl rfl 9 (by decide) (hK.2.w ww_2_82 rfl _) (fun _ h9 => h9) rfl dX6_giveSeats_83 ?_
    refine lv_iconst (v := (1 : Int32)) hx hb dX6_giveSeats_86 (by decide) ?_
    refine lv_iadd hx hb dX6_giveSeats_87 ?_
    refine va_put (D := D) (ci := 6) (v := .int ((rd_gifts z0) + (1 : Int32))) (ty := .int) (C := RX6) (T := TX6) (N := 11) hx hb hts kb_inX6 tyX6 tyX6_ok nmX6 hown hK.1 hP hD hS 0 rfl rfl 9 (by decide) (hK.2.w ww_2_82 rfl _) (fun _ h9 => h9) rfl (by decide +kernel) rfl rfl (Nat.le_of_ble_eq_true rfl) dX6_giveSeats_88 (fun H locs hP hD hS => ?_)
    have hP : va_P D vwCl (w_Ride dA a (pa 0) (pa 1) (rd_set_gifts z0 ((rd_gifts z0) + (1 : Int32))) ++ (w_Plan dA pa pl)) H := hP
    have hD : va_D A (w_Ride dA a (pa 0) (pa 1) (rd_set_gifts z0 ((rd_gifts z0) + (1 : Int32))) ++ (w_Plan dA pa pl)) := hD
    refine lv_aload_n hx hb dX6_giveSeats_91 rfl (lv_at hl 1 rfl) ?_
    refine lv_iload_n hx hb dX6_giveSeats_92 rfl (lv_at hl 2 rfl) ?_
    refine lv_iload hx hb dX6_giveSeats_93 (lv_at hl 4 rfl) ?_
    obtain ⟨r11, hc11, hf⟩ := kb_bind hf
    refine kb_cv (ws2 := (w_Ride dA a (pa 0) (pa 1) r11 ++ (w_Plan dA pa pl))) (kb_rV (n := 2) (As := [.int v2, .int v4]) (rest := []) hx hb hml hown hK (c_X6_sitDown l D dA H.size a pa (rd_set_gifts z0 ((rd_gifts z0) + (1 : Int32))) pl v2 v4 r11 hc11) ⟨ww_4_5, ww_4_2, ww_4_3, ww_4_4, ww_1_8, rfl, by decide, by decide⟩ rfl rfl (by decide +kernel) ⟨Nat.le_of_ble_eq_true rfl, Nat.le_of_ble_eq_true rfl⟩ hP hD hS hA hE [0, 1, 2, 3, 4, 5, 6, 7, 8, 9, 10, 11, 12, 13, 14, 15, 16, 17, 18, 19, 20, 21, 22, 23, 24, 25, 26, 27, 28, 29] rfl (by decide) 0 rfl rfl rfl hl.1 rfl (Nat.le_of_ble_eq_true rfl) dX6_giveSeats_95 ⟨Nat.le_of_ble_eq_true rfl, Nat.le_of_ble_eq_true rfl⟩) hP hD hS hA [0, 1, 2, 3, 4, 5, 6, 7, 8, 9, 10, 11, 12, 13, 14, 15, 16, 17, 18, 19, 20, 21, 22, 23, 24, 25, 26, 27, 28, 29] [] [0, 1, 2, 3, 4, 5, 6, 7, 8, 9, 10, 11, 12, 13, 14, 15, 16, 17, 18, 19, 20, 21, 22, 23, 24, 25, 26, 27, 28, 29] rfl rfl (by decide) (by decide) rfl (by decide) (fun H locs hP hD hS => ?_)
    exact B_98 k4 hk4 _ _ _ _ _ _ hf hP hD hS (lv_sub hl [1, 0, 2] rfl)
  have B_4 : ∀ (n : Nat) (v1 : Int32) (v2 : Int32) (z0 : RideT) (H : Heap) (locs : List Loc) (ls : Array Slot), f_X6_giveSeats_b4 pl n v1 v2 z0 = some (rv, u0) → va_P D vwCl (w_Ride dA a (pa 0) (pa 1) z0 ++ (w_Plan dA pa pl)) H → va_D A (w_Ride dA a (pa 0) (pa 1) z0 ++ (w_Plan dA pa pl)) → va_S A s.heap H locs → lv_has ls 5 [(0, .ref (a 0)), (1, .int v1), (2, .int v2)] → W p l e ({ frames := 2, cells := 0, slots := 0, locals := 45 } : Room) s m ([.ref (a 0)] : List Value).toArray below meth c H locs 0 0 Q (F0 m 4 ls []) := by
    intro n
    induction n with
    | zero =>
      intro v1 v2 z0 H locs ls hf
      exact absurd hf (by simp [f_X6_giveSeats_b4])
    | succ n ih =>
      intro v1 v2 z0 H locs ls hf hP hD hS hl
      rw [f_X6_giveSeats_b4] at hf
      refine lv_iload_n hx hb dX6_giveSeats_4 rfl (lv_at hl 2 rfl) ?_
      refine lv_aload_n hx hb dX6_giveSeats_5 rfl (lv_at hl 0 rfl) ?_
      refine va_get (D := D) (ci := 6) (v := .ref (pa 0)) (C := RX6) (T := TX6) (N := 11) hx hb hts kb_inX6 hown hK.1 hP 0 rfl rfl 0 (by decide) (hK.2.w ww_2_66 rfl _) (fun _ h9 => h9) rfl dX6_giveSeats_6 ?_
      refine va_get (D := D) (ci := 5) (v := .int (pl_riderCount pl)) (C := RX5) (T := TX5) (N := 8) hx hb hts kb_inX5 hown hK.1 hP 9 rfl rfl 5 (by decide) (hK.2.w ww_1_234 rfl _) (fun _ h9 => h9) rfl dX6_giveSeats_9 ?_
      refine lv_icmp_ge (tgt := 104) hx hb dX6_giveSeats_12 (by decide) (fun c_1 => ?_) (fun c_1 => ?_)
      · rw [if_pos c_1] at hf
        refine lv_iload_n hx hb dX6_giveSeats_104 rfl (lv_at hl 1 rfl) ?_
        exact RET _ _ H _ ls 105 hf hP hD hS dX6_giveSeats_105
      · rw [if_neg c_1] at hf
        refine lv_aload_n hx hb dX6_giveSeats_15 rfl (lv_at hl 0 rfl) ?_
        refine va_get (D := D) (ci := 6) (v := .ref (a 4)) (C := RX6) (T := TX6) (N := 11) hx hb hts kb_inX6 hown hK.1 hP 0 rfl rfl 2 (by decide) (hK.2.w ww_2_70 rfl _) (fun _ h9 => h9) rfl dX6_giveSeats_16 ?_
        refine lv_iload_n hx hb dX6_giveSeats_19 rfl (lv_at hl 2 rfl) ?_
        obtain ⟨h_2, hf⟩ := kb_if hf
        refine va_iald (D := D) hx hb hK.1 hP 4 0 rfl rfl h_2 dX6_giveSeats_20 ?_
        refine lv_bipush (v := (101 : Int32)) hx hb dX6_giveSeats_21 (by decide) ?_
        refine lv_icmp_ne (tgt := 98) hx hb dX6_giveSeats_23 (by decide) (fun c_3 => ?_) (fun c_3 => ?_)
        · rw [if_neg c_3] at hf
          refine lv_iinc (v := (v2 + (1 : Int32))) (lv' := [(2, .int (v2 + (1 : Int32))), (0, .ref (a 0)), (1, .int v1)]) hx hb dX6_giveSeats_98 hl (k := 2) rfl (by rfl) (by decide) rfl (fun ls hl => ?_)
          refine lv_goto (tgt := 4) hx hb dX6_giveSeats_101 (by decide) ?_
          exact ih _ _ _ _ _ _ hf hP hD hS (lv_sub hl [1, 2, 0] rfl)
        · rw [if_pos c_3] at hf
          refine lv_aload_n hx hb dX6_giveSeats_26 rfl (lv_at hl 0 rfl) ?_
          refine va_get (D := D) (ci := 6) (v := .ref (pa 0)) (C := RX6) (T := TX6) (N := 11) hx hb hts kb_inX6 hown hK.1 hP 0 rfl rfl 0 (by decide) (hK.2.w ww_2_66 rfl _) (fun _ h9 => h9) rfl dX6_giveSeats_27 ?_
          refine va_get (D := D) (ci := 5) (v := .ref (pa 12)) (C := RX5) (T := TX5) (N := 8) hx hb hts kb_inX5 hown hK.1 hP 9 rfl rfl 2 (by decide) (hK.2.w ww_1_223 rfl _) (fun _ h9 => h9) rfl dX6_giveSeats_30 ?_
          refine lv_iload_n hx hb dX6_giveSeats_33 rfl (lv_at hl 2 rfl) ?_
          obtain ⟨h_4, hf⟩ := kb_if hf
          refine va_aldq (D := D) hx hb hK.1 hP 21 5 rfl rfl h_4 dX6_giveSeats_34 ?_
          show W p l e ({ frames := 2, cells := 0, slots := 0, locals := 45 } : Room) s m ([.ref (a 0)] : List Value).toArray below meth c _ _ 0 0 Q (F0 m 35 _ [.ref (pa (13 + (v2).toNatClampNeg))])
          refine va_get (D := D) (ci := 7) (v := .int ((qr_age (pl_riders pl)) (v2).toNatClampNeg)) (C := RX7) (T := TX7) (N := 10) hx hb hts kb_inX7 hown hK.1 hP (9 + (13 + (v2).toNatClampNeg)) (kb_at rfl (at_Plan_13 dA pa pl (v2).toNatClampNeg (kb_inlt h_4))) rfl 5 (by decide) (hK.2.w ww_1_177 rfl _) (fun _ h9 => h9) rfl dX6_giveSeats_35 ?_
          refine lv_bipush (v := (65 : Int32)) hx hb dX6_giveSeats_38 (by decide) ?_
          refine lv_icmp_lt (tgt := 98) hx hb dX6_giveSeats_40 (by decide) (fun c_5 => ?_) (fun c_5 => ?_)
          · rw [if_pos c_5] at hf
            refine lv_iinc (v := (v2 + (1 : Int32))) (lv' := [(2, .int (v2 + (1 : Int32))), (0, .ref (a 0)), (1, .int v1)]) hx hb dX6_giveSeats_98 hl (k := 2) rfl (by rfl) (by decide) rfl (fun ls hl => ?_)
            refine lv_goto (tgt := 4) hx hb dX6_giveSeats_101 (by decide) ?_
            exact ih _ _ _ _ _ _ hf hP hD hS (lv_sub hl [1, 2, 0] rfl)
          · rw [if_neg c_5] at hf
            refine lv_aload_n hx hb dX6_giveSeats_43 rfl (lv_at hl 0 rfl) ?_
            obtain ⟨r6, hc6, hf⟩ := kb_bind hf
            refine kb_ci (ws2 := (w_Ride dA a (pa 0) (pa 1) z0 ++ (w_Plan dA pa pl))) (kb_rV (n := 0) (As := []) (rest := []) hx hb hml hown hK (c_X6_youngest l D dA H.size a pa z0 pl r6 hc6) ⟨ww_4_1, ww_3_238, ww_4_0, ws_27, ww_1_8, rfl, by decide, by decide⟩ rfl rfl (by decide +kernel) ⟨Nat.le_of_ble_eq_true rfl, Nat.le_of_ble_eq_true rfl⟩ hP hD hS hA hE [0, 1, 2, 3, 4, 5, 6, 7, 8, 9, 10, 11, 12, 13, 14, 15, 16, 17, 18, 19, 20, 21, 22, 23, 24, 25, 26, 27, 28, 29] rfl (by decide) 0 rfl rfl rfl hl.1 rfl (Nat.le_of_ble_eq_true rfl) dX6_giveSeats_44 ⟨Nat.le_of_ble_eq_true rfl, Nat.le_of_ble_eq_true rfl⟩) hP hD hS hA [0, 1, 2, 3, 4, 5, 6, 7, 8, 9, 10, 11, 12, 13, 14, 15, 16, 17, 18, 19, 20, 21, 22, 23, 24, 25, 26, 27, 28, 29] [] [0, 1, 2, 3, 4, 5, 6, 7, 8, 9, 10, 11, 12, 13, 14, 15, 16, 17, 18, 19, 20, 21, 22, 23, 24, 25, 26, 27, 28, 29] rfl rfl (by decide) (by decide) rfl (by decide) (fun H locs hP hD hS => ?_)
            refine lv_istore_n (lv' := [(3, .int r6), (0, .ref (a 0)), (1, .int v1), (2, .int v2)]) hx hb dX6_giveSeats_47 rfl hl (by decide) rfl (fun ls hl => ?_)
            refine lv_iload_n hx hb dX6_giveSeats_48 rfl (lv_at hl 0 rfl) ?_
            refine lv_bipush (v := (-2 : Int32)) hx hb dX6_giveSeats_49 (by decide) ?_
            refine lv_icmp_eq (tgt := 98) hx hb dX6_giveSeats_51 (by decide) (fun c_7 => ?_) (fun c_7 => ?_)
            · rw [if_pos c_7] at hf
              refine lv_iinc (v := (v2 + (1 : Int32))) (lv' := [(2, .int (v2 + (1 : Int32))), (3, .int r6), (0, .ref (a 0)), (1, .int v1)]) hx hb dX6_giveSeats_98 hl (k := 3) rfl (by rfl) (by decide) rfl (fun ls hl => ?_)
              refine lv_goto (tgt := 4) hx hb dX6_giveSeats_101 (by decide) ?_
              exact ih _ _ _ _ _ _ hf hP hD hS (lv_sub hl [2, 3, 0] rfl)
            · rw [if_neg c_7] at hf
              refine lv_aload_n hx hb dX6_giveSeats_54 rfl (lv_at hl 1 rfl) ?_
              refine va_get (D := D) (ci := 6) (v := .ref (a 4)) (C := RX6) (T := TX6) (N := 11) hx hb hts kb_inX6 hown hK.1 hP 0 rfl rfl 2 (by decide) (hK.2.w ww_2_70 rfl _) (fun _ h9 => h9) rfl dX6_giveSeats_55 ?_
              refine lv_iload_n hx hb dX6_giveSeats_58 rfl (lv_at hl 0 rfl) ?_
              obtain ⟨h_8, hf⟩ := kb_if hf
              refine va_iald (D := D) hx hb hK.1 hP 4 0 rfl rfl h_8 dX6_giveSeats_59 ?_
              refine lv_istore (lv' := [(4, .int ((rd_place z0) (r6).toNatClampNeg)), (3, .int r6), (0, .ref (a 0)), (1, .int v1), (2, .int v2)]) hx hb dX6_giveSeats_60 hl (by decide) rfl (fun ls hl => ?_)
              refine lv_aload_n hx hb dX6_giveSeats_62 rfl (lv_at hl 2 rfl) ?_
              refine lv_iload_n hx hb dX6_giveSeats_63 rfl (lv_at hl 1 rfl) ?_
              obtain ⟨r9, hc9, hf⟩ := kb_bind hf
              refine kb_cv (ws2 := (w_Ride dA a (pa 0) (pa 1) r9 ++ (w_Plan dA pa pl))) (kb_rV (n := 1) (As := [.int r6]) (rest := []) hx hb hml hown hK (c_X6_getUp l D dA H.size a pa z0 pl r6 r9 hc9) ⟨ww_3_233, ww_3_230, ww_3_232, ws_25, ww_1_8, rfl, by decide, by decide⟩ rfl rfl (by decide +kernel) ⟨Nat.le_of_ble_eq_true rfl, Nat.le_of_ble_eq_true rfl⟩ hP hD hS hA hE [0, 1, 2, 3, 4, 5, 6, 7, 8, 9, 10, 11, 12, 13, 14, 15, 16, 17, 18, 19, 20, 21, 22, 23, 24, 25, 26, 27, 28, 29] rfl (by decide) 0 rfl rfl rfl hl.1 rfl (Nat.le_of_ble_eq_true rfl) dX6_giveSeats_64 ⟨Nat.le_of_ble_eq_true rfl, Nat.le_of_ble_eq_true rfl⟩) hP hD hS hA [0, 1, 2, 3, 4, 5, 6, 7, 8, 9, 10, 11, 12, 13, 14, 15, 16, 17, 18, 19, 20, 21, 22, 23, 24, 25, 26, 27, 28, 29] [] [0, 1, 2, 3, 4, 5, 6, 7, 8, 9, 10, 11, 12, 13, 14, 15, 16, 17, 18, 19, 20, 21, 22, 23, 24, 25, 26, 27, 28, 29] rfl rfl (by decide) (by decide) rfl (by decide) (fun H locs hP hD hS => ?_)
              refine lv_aload_n hx hb dX6_giveSeats_67 rfl (lv_at hl 2 rfl) ?_
              refine va_get (D := D) (ci := 6) (v := .ref (a 4)) (C := RX6) (T := TX6) (N := 11) hx hb hts kb_inX6 hown hK.1 hP 0 rfl rfl 2 (by decide) (hK.2.w ww_2_70 rfl _) (fun _ h9 => h9) rfl dX6_giveSeats_68 ?_
              refine lv_iload_n hx hb dX6_giveSeats_71 rfl (lv_at hl 1 rfl) ?_
              refine lv_bipush (v := (101 : Int32)) hx hb dX6_giveSeats_72 (by decide) ?_
              obtain ⟨h_10, hf⟩ := kb_if hf
              refine va_iast (D := D) hx hb hK.1 hP hD hS 4 0 rfl rfl h_10 dX6_giveSeats_74 (fun H locs hP hD hS => ?_)
              have hP : va_P D vwCl (w_Ride dA a (pa 0) (pa 1) (rd_set_place r9 (upd (rd_place r9) (r6).toNatClampNeg (101 : Int32))) ++ (w_Plan dA pa pl)) H := hP
              have hD : va_D A (w_Ride dA a (pa 0) (pa 1) (rd_set_place r9 (upd (rd_place r9) (r6).toNatClampNeg (101 : Int32))) ++ (w_Plan dA pa pl)) := hD
              exact B_75 (f_X6_giveSeats_b4 pl n) ih _ _ _ _ _ _ _ _ hf hP hD hS (lv_sub hl [2, 3, 4, 1, 0] rfl)
  have E0 : ∀ (H : Heap) (locs : List Loc), va_P D vwCl (w_Ride dA a (pa 0) (pa 1) rd ++ (w_Plan dA pa pl)) H → va_D A (w_Ride dA a (pa 0) (pa 1) rd ++ (w_Plan dA pa pl)) → va_S A s.heap H locs → W p l e ({ frames := 2, cells := 0, slots := 0, locals := 45 } : Room) s m ([.ref (a 0)] : List Value).toArray below meth c H locs 0 0 Q (F0 m 0 ls []) := by
    intro H locs hP hD hS
    rw [f_X6_giveSeats] at hf
    refine lv_iconst (v := (0 : Int32)) hx hb dX6_giveSeats_0 (by decide) ?_
    refine lv_istore_n (lv' := [(1, .int (0 : Int32)), (0, .ref (a 0))]) hx hb dX6_giveSeats_1 rfl hl (by decide) rfl (fun ls hl => ?_)
    refine lv_iconst (v := (0 : Int32)) hx hb dX6_giveSeats_2 (by decide) ?_
    refine lv_istore_n (lv' := [(2, .int (0 : Int32)), (1, .int (0 : Int32)), (0, .ref (a 0))]) hx hb dX6_giveSeats_3 rfl hl (by decide) rfl (fun ls hl => ?_)
    exact B_4 4096 _ _ _ _ _ _ hf hP hD hS (lv_sub hl [2, 1, 0] rfl)
  exact E0 _ _ hP hD hS

noncomputable def f_X6_halt_b33 (pl : PlanT) : Nat → Int32 → Int32 → Int32 → RideT → Option (Int32 × RideT)
  | 0, _, _, _, _ => none
  | n + 1, v1, v2, v3, z0 => (if (pl_riderCount pl) ≤ v3 then some (v1, z0) else if kb_in? v3 8 then (if ((rd_place z0) (v3).toNatClampNeg) = (101 : Int32) then (f_X10_holdsBit v2 v3).bind fun r8 => (if r8 = 0 then (f_X6_settle z0 pl v3).bind fun r10 => f_X6_halt_b33 pl n v1 v2 (v3 + (1 : Int32)) r10 else f_X6_halt_b33 pl n v1 v2 (v3 + (1 : Int32)) z0) else f_X6_halt_b33 pl n v1 v2 (v3 + (1 : Int32)) z0) else none)
noncomputable def f_X6_halt_b26 (pl : PlanT) (v1 : Int32) (z0 : RideT) : Option (Int32 × RideT) := (f_X6_giveSeats z0 pl).bind fun r4 => f_X6_halt_b33 pl 4096 v1 r4.1 (0 : Int32) r4.2
noncomputable def f_X6_halt (rd : RideT) (pl : PlanT) : Option (Int32 × RideT) := (if (rd_stops rd) < (12 : Int32) then (f_X6_letOff rd pl).bind fun r2 => if kb_in? (rd_stops r2.2) 12 then f_X6_halt_b26 pl r2.1 (rd_set_spent r2.2 (upd (rd_spent r2.2) ((rd_stops r2.2)).toNatClampNeg r2.1)) else none else some ((0 : Int32), rd))
set_option maxHeartbeats 4000000 in
set_option maxRecDepth 100000 in
theorem c_X6_halt (l : Launch) (D : va_G) (dA : Nat → ClassId) (sz : Nat) (a : Nat → Nat) (pa : Nat → Nat) (rd : RideT) (pl : PlanT) (rv : Int32) (u0 : RideT) (hf : f_X6_halt rd pl = some (rv, u0)) : kb_Mi l yX6_halt cX6_halt 4 (some .int) ({ frames := 5, cells := 0, slots := 0, locals := 126 } : Room) D dA [.ref (a 0)] sz (w_Ride dA a (pa 0) (pa 1) rd ++ (w_Plan dA pa pl)) 0 0 rv (w_Ride dA a (pa 0) (pa 1) u0 ++ (w_Plan dA pa pl)) := by
  refine Met.ofW (cc := cX6_halt) (maxL := 4) (ret := (some .int)) (by decide) rfl ?_
  intro p e s m args below meth c s₁ B hml hv
  obtain ⟨rfl, hsz, hP, hK, hD0, hE⟩ := hv
  have hx := B.exec
  have hb := B.bytes
  have hr := B.returns
  have hown : s.vm.findClass RX6 = some m.cls := findClass_of_methodNamed B.named
  have hlocks := B.notSynchronized
  have hts : ∀ w ∈ kb_gw, w.before ([.ref (a 0)] : List Value).toArray s = true := fun w hw => hK.2.1 w hw _
  subst hsz
  have hD := hD0.self (sz := s.heap.size)
  generalize hAe : va_A (w_Ride dA a (pa 0) (pa 1) rd ++ (w_Plan dA pa pl)) s.heap.size = A at hD hE ⊢
  have hA : ∀ q : Nat, s.heap.size ≤ q → A q := fun q h => by rw [← hAe]; exact Or.inr h
  have hS : va_S A s.heap s.heap [] := va_S.rf
  have hl := lv_entry ([.ref (a 0)]) (n := 4) (Nat.le_of_ble_eq_true rfl)
  rw [lg_entry_eq]
  generalize (lg_sl ([.ref (a 0)]) ++ List.replicate (4 - (lg_sl ([.ref (a 0)])).length) Slot.unset).toArray = ls at hl ⊢
  have hl : lv_has ls 4 [(0, .ref (a 0))] := hl
  generalize hQ : MQ below (va_Qi (fun r (_ : Unit) => r = rv) (kb_B D A (w_Ride dA a (pa 0) (pa 1) u0 ++ (w_Plan dA pa pl))) A) ([.ref (a 0)] : List Value).toArray s 0 0 A = Q
  show W p l e ({ frames := 5, cells := 0, slots := 0, locals := 126 } : Room) s m ([.ref (a 0)] : List Value).toArray below meth c s.heap [] 0 0 Q (F0 m 0 ls [])
  have RET : ∀ (r2 : Int32) (w0 : RideT) (H : Heap) (locs : List Loc) (ls : Array Slot) (pc : Nat), some (r2, w0) = some (rv, u0) → va_P D vwCl (w_Ride dA a (pa 0) (pa 1) w0 ++ (w_Plan dA pa pl)) H → va_D A (w_Ride dA a (pa 0) (pa 1) w0 ++ (w_Plan dA pa pl)) → va_S A s.heap H locs → decode cX6_halt pc = .ok (.ireturn, 1) → W p l e ({ frames := 5, cells := 0, slots := 0, locals := 126 } : Room) s m ([.ref (a 0)] : List Value).toArray below meth c H locs 0 0 Q (F0 m pc ls [.int r2]) := by
    intro r2 w0 H locs ls pc hq hP hD hS hd
    cases hq
    rw [← hQ]
    exact W.iret hx hb hr (fun t ht hW => ⟨⟨_, (), rfl, rfl, by rw [ht]; exact hP, hD⟩, hS.F ht⟩) hS.2.2 hd
  have B_33 : ∀ (n : Nat) (v1 : Int32) (v2 : Int32) (v3 : Int32) (z0 : RideT) (H : Heap) (locs : List Loc) (ls : Array Slot), f_X6_halt_b33 pl n v1 v2 v3 z0 = some (rv, u0) → va_P D vwCl (w_Ride dA a (pa 0) (pa 1) z0 ++ (w_Plan dA pa pl)) H → va_D A (w_Ride dA a (pa 0) (pa 1) z0 ++ (w_Plan dA pa pl)) → va_S A s.heap H locs → lv_has ls 4 [(0, .ref (a 0)), (1, .int v1), (2, .int v2), (3, .int v3)] → W p l e ({ frames := 5, cells := 0, slots := 0, locals := 126 } : Room) s m ([.ref (a 0)] : List Value).toArray below meth c H locs 0 0 Q (F0 m 33 ls []) := by
    intro n
    induction n with
    | zero =>
      intro v1 v2 v3 z0 H locs ls hf
      exact absurd hf (by simp [f_X6_halt_b33])
    | succ n ih =>
      intro v1 v2 v3 z0 H locs ls hf hP hD hS hl
      rw [f_X6_halt_b33] at hf
      refine lv_iload_n hx hb dX6_halt_33 rfl (lv_at hl 3 rfl) ?_
      refine lv_aload_n hx hb dX6_halt_34 rfl (lv_at hl 0 rfl) ?_
      refine va_get (D := D) (ci := 6) (v := .ref (pa 0)) (C := RX6) (T := TX6) (N := 11) hx hb hts kb_inX6 hown hK.1 hP 0 rfl rfl 0 (by decide) (hK.2.w ww_2_66 rfl _) (fun _ h9 => h9) rfl dX6_halt_35 ?_
      refine va_get (D := D) (ci := 5) (v := .int (pl_riderCount pl)) (C := RX5) (T := TX5) (N := 8) hx hb hts kb_inX5 hown hK.1 hP 9 rfl rfl 5 (by decide) (hK.2.w ww_1_234 rfl _) (fun _ h9 => h9) rfl dX6_halt_38 ?_
      refine lv_icmp_ge (tgt := 74) hx hb dX6_halt_41 (by decide) (fun c_5 => ?_) (fun c_5 => ?_)
      · rw [if_pos c_5] at hf
        refine lv_iload_n hx hb dX6_halt_74 rfl (lv_at hl 1 rfl) ?_
        exact RET _ _ H _ ls 75 hf hP hD hS dX6_halt_75
      · rw [if_neg c_5] at hf
        refine lv_aload_n hx hb dX6_halt_44 rfl (lv_at hl 0 rfl) ?_
        refine va_get (D := D) (ci := 6) (v := .ref (a 4)) (C := RX6) (T := TX6) (N := 11) hx hb hts kb_inX6 hown hK.1 hP 0 rfl rfl 2 (by decide) (hK.2.w ww_2_70 rfl _) (fun _ h9 => h9) rfl dX6_halt_45 ?_
        refine lv_iload_n hx hb dX6_halt_48 rfl (lv_at hl 3 rfl) ?_
        obtain ⟨h_6, hf⟩ := kb_if hf
        refine va_iald (D := D) hx hb hK.1 hP 4 0 rfl rfl h_6 dX6_halt_49 ?_
        refine lv_bipush (v := (101 : Int32)) hx hb dX6_halt_50 (by decide) ?_
        refine lv_icmp_ne (tgt := 68) hx hb dX6_halt_52 (by decide) (fun c_7 => ?_) (fun c_7 => ?_)
        · rw [if_neg c_7] at hf
          refine lv_iinc (v := (v3 + (1 : Int32))) (lv' := [(3, .int (v3 + (1 : Int32))), (0, .ref (a 0)), (1, .int v1), (2, .int v2)]) hx hb dX6_halt_68 hl (k := 3) rfl (by rfl) (by decide) rfl (fun ls hl => ?_)
          refine lv_goto (tgt := 33) hx hb dX6_halt_71 (by decide) ?_
          exact ih _ _ _ _ _ _ _ hf hP hD hS (lv_sub hl [1, 2, 3, 0] rfl)
        · rw [if_pos c_7] at hf
          refine lv_iload_n hx hb dX6_halt_55 rfl (lv_at hl 2 rfl) ?_
          refine lv_iload_n hx hb dX6_halt_56 rfl (lv_at hl 3 rfl) ?_
          obtain ⟨r8, hc8, hf⟩ := kb_bind hf
          refine kb_ci (ws2 := (w_Ride dA a (pa 0) (pa 1) z0 ++ (w_Plan dA pa pl))) (kb_rSN (n := 2) (As := [.int v2, .int v3]) (rest := []) hx hb hml hown hK (c_X10_holdsBit l D dA H.size v2 v3 r8 hc8) ⟨ww_3_158, ww_4_6, ww_3_157, ww_1_1, by decide, by decide⟩ rfl rfl (by decide +kernel) ⟨Nat.le_of_ble_eq_true rfl, Nat.le_of_ble_eq_true rfl⟩ hP hD hS hA hE [] rfl (by decide) rfl hl.1 rfl (Nat.le_of_ble_eq_true rfl) dX6_halt_57 ⟨Nat.le_of_ble_eq_true rfl, Nat.le_of_ble_eq_true rfl⟩) hP hD hS hA [] [0, 1, 2, 3, 4, 5, 6, 7, 8, 9, 10, 11, 12, 13, 14, 15, 16, 17, 18, 19, 20, 21, 22, 23, 24, 25, 26, 27, 28, 29] [0, 1, 2, 3, 4, 5, 6, 7, 8, 9, 10, 11, 12, 13, 14, 15, 16, 17, 18, 19, 20, 21, 22, 23, 24, 25, 26, 27, 28, 29] rfl rfl (by decide) (by decide) rfl (by decide) (fun H locs hP hD hS => ?_)
          refine lv_if_ne (tgt := 68) hx hb dX6_halt_60 (by decide) (fun c_9 => ?_) (fun c_9 => ?_)
          · rw [if_neg c_9] at hf
            refine lv_iinc (v := (v3 + (1 : Int32))) (lv' := [(3, .int (v3 + (1 : Int32))), (0, .ref (a 0)), (1, .int v1), (2, .int v2)]) hx hb dX6_halt_68 hl (k := 3) rfl (by rfl) (by decide) rfl (fun ls hl => ?_)
            refine lv_goto (tgt := 33) hx hb dX6_halt_71 (by decide) ?_
            exact ih _ _ _ _ _ _ _ hf hP hD hS (lv_sub hl [1, 2, 3, 0] rfl)
          · rw [if_pos c_9] at hf
            refine lv_aload_n hx hb dX6_halt_63 rfl (lv_at hl 0 rfl) ?_
            refine lv_iload_n hx hb dX6_halt_64 rfl (lv_at hl 3 rfl) ?_
            obtain ⟨r10, hc10, hf⟩ := kb_bind hf
            refine kb_cv (ws2 := (w_Ride dA a (pa 0) (pa 1) r10 ++ (w_Plan dA pa pl))) (kb_rV (n := 1) (As := [.int v3]) (rest := []) hx hb hml hown hK (c_X6_settle l D dA H.size a pa z0 pl v3 r10 hc10) ⟨ww_4_14, ww_4_11, ww_4_13, ws_29, ww_1_8, rfl, by decide, by decide⟩ rfl rfl (by decide +kernel) ⟨Nat.le_of_ble_eq_true rfl, Nat.le_of_ble_eq_true rfl⟩ hP hD hS hA hE [0, 1, 2, 3, 4, 5, 6, 7, 8, 9, 10, 11, 12, 13, 14, 15, 16, 17, 18, 19, 20, 21, 22, 23, 24, 25, 26, 27, 28, 29] rfl (by decide) 0 rfl rfl rfl hl.1 rfl (Nat.le_of_ble_eq_true rfl) dX6_halt_65 ⟨Nat.le_of_ble_eq_true rfl, Nat.le_of_ble_eq_true rfl⟩) hP hD hS hA [0, 1, 2, 3, 4, 5, 6, 7, 8, 9, 10, 11, 12, 13, 14, 15, 16, 17, 18, 19, 20, 21, 22, 23, 24, 25, 26, 27, 28, 29] [] [0, 1, 2, 3, 4, 5, 6, 7, 8, 9, 10, 11, 12, 13, 14, 15, 16, 17, 18, 19, 20, 21, 22, 23, 24, 25, 26, 27, 28, 29] rfl rfl (by decide) (by decide) rfl (by decide) (fun H locs hP hD hS => ?_)
            refine lv_iinc (v := (v3 + (1 : Int32))) (lv' := [(3, .int (v3 + (1 : Int32))), (0, .ref (a 0)), (1, .int v1), (2, .int v2)]) hx hb dX6_halt_68 hl (k := 3) rfl (by rfl) (by decide) rfl (fun ls hl => ?_)
            refine lv_goto (tgt := 33) hx hb dX6_halt_71 (by decide) ?_
            exact ih _ _ _ _ _ _ _ hf hP hD hS (lv_sub hl [1, 2, 3, 0] rfl)
  have B_26 : ∀ (v1 : Int32) (z0 : RideT) (H : Heap) (locs : List Loc) (ls : Array Slot), f_X6_halt_b26 pl v1 z0 = some (rv, u0) → va_P D vwCl (w_Ride dA a (pa 0) (pa 1) z0 ++ (w_Plan dA pa pl)) H → va_D A (w_Ride dA a (pa 0) (pa 1) z0 ++ (w_Plan dA pa pl)) → va_S A s.heap H locs → lv_has ls 4 [(0, .ref (a 0)), (1, .int v1)] → W p l e ({ frames := 5, cells := 0, slots := 0, locals := 126 } : Room) s m ([.ref (a 0)] : List Value).toArray below meth c H locs 0 0 Q (F0 m 26 ls []) := by
    intro v1 z0 H locs ls hf hP hD hS hl
    rw [f_X6_halt_b26] at hf
    refine lv_aload_n hx hb dX6_halt_26 rfl (lv_at hl 0 rfl) ?_
    obtain ⟨r4, hc4, hf⟩ := kb_bind hf
    refine kb_ci (ws2 := (w_Ride dA a (pa 0) (pa 1) r4.2 ++ (w_Plan dA pa pl))) (kb_rV (n := 0) (As := []) (rest := []) hx hb hml hown hK (c_X6_giveSeats l D dA H.size a pa z0 pl r4.1 r4.2 hc4) ⟨ww_3_237, ww_3_234, ww_3_236, ws_26, ww_1_8, rfl, by decide, by decide⟩ rfl rfl (by decide +kernel) ⟨Nat.le_of_ble_eq_true rfl, Nat.le_of_ble_eq_true rfl⟩ hP hD hS hA hE [0, 1, 2, 3, 4, 5, 6, 7, 8, 9, 10, 11, 12, 13, 14, 15, 16, 17, 18, 19, 20, 21, 22, 23, 24, 25, 26, 27, 28, 29] rfl (by decide) 0 rfl rfl rfl hl.1 rfl (Nat.le_of_ble_eq_true rfl) dX6_halt_27 ⟨Nat.le_of_ble_eq_true rfl, Nat.le_of_ble_eq_true rfl⟩) hP hD hS hA [0, 1, 2, 3, 4, 5, 6, 7, 8, 9, 10, 11, 12, 13, 14, 15, 16, 17, 18, 19, 20, 21, 22, 23, 24, 25, 26, 27, 28, 29] [] [0, 1, 2, 3, 4, 5, 6, 7, 8, 9, 10, 11, 12, 13, 14, 15, 16, 17, 18, 19, 20, 21, 22, 23, 24, 25, 26, 27, 28, 29] rfl rfl (by decide) (by decide) rfl (by decide) (fun H locs hP hD hS => ?_)
    refine lv_istore_n (lv' := [(2, .int r4.1), (0, .ref (a 0)), (1, .int v1)]) hx hb dX6_halt_30 rfl hl (by decide) rfl (fun ls hl => ?_)
    refine lv_iconst (v := (0 : Int32)) hx hb dX6_halt_31 (by decide) ?_
    refine lv_istore_n (lv' := [(3, .int (0 : Int32)), (2, .int r4.1), (0, .ref (a 0)), (1, .int v1)]) hx hb dX6_halt_32 rfl hl (by decide) rfl (fun ls hl => ?_)
    exact B_33 4096 _ _ _ _ _ _ _ hf hP hD hS (lv_sub hl [2, 3, 1, 0] rfl)
  have E0 : ∀ (H : Heap) (locs : List Loc), va_P D vwCl (w_Ride dA a (pa 0) (pa 1) rd ++ (w_Plan dA pa pl)) H → va_D A (w_Ride dA a (pa 0) (pa 1) rd ++ (w_Plan dA pa pl)) → va_S A s.heap H locs → W p l e ({ frames := 5, cells := 0, slots := 0, locals := 126 } : Room) s m ([.ref (a 0)] : List Value).toArray below meth c H locs 0 0 Q (F0 m 0 ls []) := by
    intro H locs hP hD hS
    rw [f_X6_halt] at hf
    refine lv_aload_n hx hb dX6_halt_0 rfl (lv_at hl 0 rfl) ?_
    refine va_get (D := D) (ci := 6) (v := .int (rd_stops rd)) (C := RX6) (T := TX6) (N := 11) hx hb hts kb_inX6 hown hK.1 hP 0 rfl rfl 10 (by decide) (hK.2.w ww_2_84 rfl _) (fun _ h9 => h9) rfl dX6_halt_1 ?_
    refine lv_bipush (v := (12 : Int32)) hx hb dX6_halt_4 (by decide) ?_
    refine lv_icmp_lt (tgt := 11) hx hb dX6_halt_6 (by decide) (fun c_1 => ?_) (fun c_1 => ?_)
    · rw [if_pos c_1] at hf
      refine lv_aload_n hx hb dX6_halt_11 rfl (lv_at hl 0 rfl) ?_
      obtain ⟨r2, hc2, hf⟩ := kb_bind hf
      refine kb_ci (ws2 := (w_Ride dA a (pa 0) (pa 1) r2.2 ++ (w_Plan dA pa pl))) (kb_rV (n := 0) (As := []) (rest := []) hx hb hml hown hK (c_X6_letOff l D dA H.size a pa rd pl r2.1 r2.2 hc2) ⟨ww_3_204, ww_3_201, ww_3_203, ws_23, ww_1_8, rfl, by decide, by decide⟩ rfl rfl (by decide +kernel) ⟨Nat.le_of_ble_eq_true rfl, Nat.le_of_ble_eq_true rfl⟩ hP hD hS hA hE [0, 1, 2, 3, 4, 5, 6, 7, 8, 9, 10, 11, 12, 13, 14, 15, 16, 17, 18, 19, 20, 21, 22, 23, 24, 25, 26, 27, 28, 29] rfl (by decide) 0 rfl rfl rfl hl.1 rfl (Nat.le_of_ble_eq_true rfl) dX6_halt_12 ⟨Nat.le_of_ble_eq_true rfl, Nat.le_of_ble_eq_true rfl⟩) hP hD hS hA [0, 1, 2, 3, 4, 5, 6, 7, 8, 9, 10, 11, 12, 13, 14, 15, 16, 17, 18, 19, 20, 21, 22, 23, 24, 25, 26, 27, 28, 29] [] [0, 1, 2, 3, 4, 5, 6, 7, 8, 9, 10, 11, 12, 13, 14, 15, 16, 17, 18, 19, 20, 21, 22, 23, 24, 25, 26, 27, 28, 29] rfl rfl (by decide) (by decide) rfl (by decide) (fun H locs hP hD hS => ?_)
      refine lv_istore_n (lv' := [(1, .int r2.1), (0, .ref (a 0))]) hx hb dX6_halt_15 rfl hl (by decide) rfl (fun ls hl => ?_)
      refine lv_aload_n hx hb dX6_halt_16 rfl (lv_at hl 1 rfl) ?_
      refine va_get (D := D) (ci := 6) (v := .ref (a 7)) (C := RX6) (T := TX6) (N := 11) hx hb hts kb_inX6 hown hK.1 hP 0 rfl rfl 5 (by decide) (hK.2.w ww_2_77 rfl _) (fun _ h9 => h9) rfl dX6_halt_17 ?_
      refine lv_aload_n hx hb dX6_halt_20 rfl (lv_at hl 1 rfl) ?_
      refine va_get (D := D) (ci := 6) (v := .int (rd_stops r2.2)) (C := RX6) (T := TX6) (N := 11) hx hb hts kb_inX6 hown hK.1 hP 0 rfl rfl 10 (by decide) (hK.2.w ww_2_84 rfl _) (fun _ h9 => h9) rfl dX6_halt_21 ?_
      refine lv_iload_n hx hb dX6_halt_24 rfl (lv_at hl 0 rfl) ?_
      obtain ⟨h_3, hf⟩ := kb_if hf
      refine va_iast (D := D) hx hb hK.1 hP hD hS 7 0 rfl rfl h_3 dX6_halt_25 (fun H locs hP hD hS => ?_)
      have hP : va_P D vwCl (w_Ride dA a (pa 0) (pa 1) (rd_set_spent r2.2 (upd (rd_spent r2.2) ((rd_stops r2.2)).toNatClampNeg r2.1)) ++ (w_Plan dA pa pl)) H := hP
      have hD : va_D A (w_Ride dA a (pa 0) (pa 1) (rd_set_spent r2.2 (upd (rd_spent r2.2) ((rd_stops r2.2)).toNatClampNeg r2.1)) ++ (w_Plan dA pa pl)) := hD
      exact B_26 _ _ _ _ _ hf hP hD hS (lv_sub hl [1, 0] rfl)
    · rw [if_neg c_1] at hf
      refine lv_iconst (v := (0 : Int32)) hx hb dX6_halt_9 (by decide) ?_
      exact RET _ _ H _ ls 10 hf hP hD hS dX6_halt_10
  exact E0 _ _ hP hD hS

noncomputable def f_X6_board_b2 (pl : PlanT) : Nat → Int32 → RideT → Option (RideT)
  | 0, _, _ => none
  | n + 1, v1, z0 => (if (pl_riderCount pl) ≤ v1 then some ((rd_set_stops z0 ((rd_stops z0) + (1 : Int32)))) else if kb_in? v1 8 then (if ((qr_on (pl_riders pl)) (v1).toNatClampNeg) = (rd_stops z0) then (f_X6_settle z0 pl v1).bind fun r4 => f_X6_board_b2 pl n (v1 + (1 : Int32)) r4 else f_X6_board_b2 pl n (v1 + (1 : Int32)) z0) else none)
noncomputable def f_X6_board (rd : RideT) (pl : PlanT) : Option (RideT) := f_X6_board_b2 pl 4096 (0 : Int32) rd
set_option maxHeartbeats 4000000 in
set_option maxRecDepth 100000 in
theorem c_X6_board (l : Launch) (D : va_G) (dA : Nat → ClassId) (sz : Nat) (a : Nat → Nat) (pa : Nat → Nat) (rd : RideT) (pl : PlanT) (u0 : RideT) (hf : f_X6_board rd pl = some (u0)) : kb_Mv l yX6_board cX6_board 2 none ({ frames := 5, cells := 0, slots := 0, locals := 126 } : Room) D dA [.ref (a 0)] sz (w_Ride dA a (pa 0) (pa 1) rd ++ (w_Plan dA pa pl)) 0 0 (w_Ride dA a (pa 0) (pa 1) u0 ++ (w_Plan dA pa pl)) := by
  refine Met.ofW (cc := cX6_board) (maxL := 2) (ret := none) (by decide) rfl ?_
  intro p e s m args below meth c s₁ B hml hv
  obtain ⟨rfl, hsz, hP, hK, hD0, hE⟩ := hv
  have hx := B.exec
  have hb := B.bytes
  have hr := B.returns
  have hown : s.vm.findClass RX6 = some m.cls := findClass_of_methodNamed B.named
  have hlocks := B.notSynchronized
  have hts : ∀ w ∈ kb_gw, w.before ([.ref (a 0)] : List Value).toArray s = true := fun w hw => hK.2.1 w hw _
  subst hsz
  have hD := hD0.self (sz := s.heap.size)
  generalize hAe : va_A (w_Ride dA a (pa 0) (pa 1) rd ++ (w_Plan dA pa pl)) s.heap.size = A at hD hE ⊢
  have hA : ∀ q : Nat, s.heap.size ≤ q → A q := fun q h => by rw [← hAe]; exact Or.inr h
  have hS : va_S A s.heap s.heap [] := va_S.rf
  have hl := lv_entry ([.ref (a 0)]) (n := 2) (Nat.le_of_ble_eq_true rfl)
  rw [lg_entry_eq]
  generalize (lg_sl ([.ref (a 0)]) ++ List.replicate (2 - (lg_sl ([.ref (a 0)])).length) Slot.unset).toArray = ls at hl ⊢
  have hl : lv_has ls 2 [(0, .ref (a 0))] := hl
  generalize hQ : MQ below (va_Qv (fun (_ : Unit) => True) (kb_B D A (w_Ride dA a (pa 0) (pa 1) u0 ++ (w_Plan dA pa pl))) A) ([.ref (a 0)] : List Value).toArray s 0 0 A = Q
  show W p l e ({ frames := 5, cells := 0, slots := 0, locals := 126 } : Room) s m ([.ref (a 0)] : List Value).toArray below meth c s.heap [] 0 0 Q (F0 m 0 ls [])
  have RET : ∀ (w0 : RideT) (H : Heap) (locs : List Loc) (ls : Array Slot) (pc : Nat), some (w0) = some (u0) → va_P D vwCl (w_Ride dA a (pa 0) (pa 1) w0 ++ (w_Plan dA pa pl)) H → va_D A (w_Ride dA a (pa 0) (pa 1) w0 ++ (w_Plan dA pa pl)) → va_S A s.heap H locs → decode cX6_board pc = .ok (.return_, 1) → W p l e ({ frames := 5, cells := 0, slots := 0, locals := 126 } : Room) s m ([.ref (a 0)] : List Value).toArray below meth c H locs 0 0 Q (F0 m pc ls []) := by
    intro w0 H locs ls pc hq hP hD hS hd
    cases hq
    rw [← hQ]
    exact W.vret hx hb hr (fun t ht hW => ⟨⟨(), rfl, trivial, by rw [ht]; exact hP, hD⟩, hS.F ht⟩) hS.2.2 hd
  have B_2 : ∀ (n : Nat) (v1 : Int32) (z0 : RideT) (H : Heap) (locs : List Loc) (ls : Array Slot), f_X6_board_b2 pl n v1 z0 = some (u0) → va_P D vwCl (w_Ride dA a (pa 0) (pa 1) z0 ++ (w_Plan dA pa pl)) H → va_D A (w_Ride dA a (pa 0) (pa 1) z0 ++ (w_Plan dA pa pl)) → va_S A s.heap H locs → lv_has ls 2 [(0, .ref (a 0)), (1, .int v1)] → W p l e ({ frames := 5, cells := 0, slots := 0, locals := 126 } : Room) s m ([.ref (a 0)] : List Value).toArray below meth c H locs 0 0 Q (F0 m 2 ls []) := by
    intro n
    induction n with
    | zero =>
      intro v1 z0 H locs ls hf
      exact absurd hf (by simp [f_X6_board_b2])
    | succ n ih =>
      intro v1 z0 H locs ls hf hP hD hS hl
      rw [f_X6_board_b2] at hf
      refine lv_iload_n hx hb dX6_board_2 rfl (lv_at hl 1 rfl) ?_
      refine lv_aload_n hx hb dX6_board_3 rfl (lv_at hl 0 rfl) ?_
      refine va_get (D := D) (ci := 6) (v := .ref (pa 0)) (C := RX6) (T := TX6) (N := 11) hx hb hts kb_inX6 hown hK.1 hP 0 rfl rfl 0 (by decide) (hK.2.w ww_2_66 rfl _) (fun _ h9 => h9) rfl dX6_board_4 ?_
      refine va_get (D := D) (ci := 5) (v := .int (pl_riderCount pl)) (C := RX5) (T := TX5) (N := 8) hx hb hts kb_inX5 hown hK.1 hP 9 rfl rfl 5 (by decide) (hK.2.w ww_1_234 rfl _) (fun _ h9 => h9) rfl dX6_board_7 ?_
      refine lv_icmp_ge (tgt := 43) hx hb dX6_board_10 (by decide) (fun c_1 => ?_) (fun c_1 => ?_)
      · rw [if_pos c_1] at hf
        refine lv_aload_n hx hb dX6_board_43 rfl (lv_at hl 0 rfl) ?_
        refine lv_dup hx hb dX6_board_44 rfl ?_
        refine va_get (D := D) (ci := 6) (v := .int (rd_stops z0)) (C := RX6) (T := TX6) (N := 11) hx hb hts kb_inX6 hown hK.1 hP 0 rfl rfl 10 (by decide) (hK.2.w ww_2_84 rfl _) (fun _ h9 => h9) rfl dX6_board_45 ?_
        refine lv_iconst (v := (1 : Int32)) hx hb dX6_board_48 (by decide) ?_
        refine lv_iadd hx hb dX6_board_49 ?_
        refine va_put (D := D) (ci := 6) (v := .int ((rd_stops z0) + (1 : Int32))) (ty := .int) (C := RX6) (T := TX6) (N := 11) hx hb hts kb_inX6 tyX6 tyX6_ok nmX6 hown hK.1 hP hD hS 0 rfl rfl 10 (by decide) (hK.2.w ww_2_84 rfl _) (fun _ h9 => h9) rfl (by decide +kernel) rfl rfl (Nat.le_of_ble_eq_true rfl) dX6_board_50 (fun H locs hP hD hS => ?_)
        have hP : va_P D vwCl (w_Ride dA a (pa 0) (pa 1) (rd_set_stops z0 ((rd_stops z0) + (1 : Int32))) ++ (w_Plan dA pa pl)) H := hP
        have hD : va_D A (w_Ride dA a (pa 0) (pa 1) (rd_set_stops z0 ((rd_stops z0) + (1 : Int32))) ++ (w_Plan dA pa pl)) := hD
        exact RET _ H _ ls 53 hf hP hD hS dX6_board_53
      · rw [if_neg c_1] at hf
        refine lv_aload_n hx hb dX6_board_13 rfl (lv_at hl 0 rfl) ?_
        refine va_get (D := D) (ci := 6) (v := .ref (pa 0)) (C := RX6) (T := TX6) (N := 11) hx hb hts kb_inX6 hown hK.1 hP 0 rfl rfl 0 (by decide) (hK.2.w ww_2_66 rfl _) (fun _ h9 => h9) rfl dX6_board_14 ?_
        refine va_get (D := D) (ci := 5) (v := .ref (pa 12)) (C := RX5) (T := TX5) (N := 8) hx hb hts kb_inX5 hown hK.1 hP 9 rfl rfl 2 (by decide) (hK.2.w ww_1_223 rfl _) (fun _ h9 => h9) rfl dX6_board_17 ?_
        refine lv_iload_n hx hb dX6_board_20 rfl (lv_at hl 1 rfl) ?_
        obtain ⟨h_2, hf⟩ := kb_if hf
        refine va_aldq (D := D) hx hb hK.1 hP 21 5 rfl rfl h_2 dX6_board_21 ?_
        show W p l e ({ frames := 5, cells := 0, slots := 0, locals := 126 } : Room) s m ([.ref (a 0)] : List Value).toArray below meth c _ _ 0 0 Q (F0 m 22 _ [.ref (pa (13 + (v1).toNatClampNeg))])
        refine va_get (D := D) (ci := 7) (v := .int ((qr_on (pl_riders pl)) (v1).toNatClampNeg)) (C := RX7) (T := TX7) (N := 10) hx hb hts kb_inX7 hown hK.1 hP (9 + (13 + (v1).toNatClampNeg)) (kb_at rfl (at_Plan_13 dA pa pl (v1).toNatClampNeg (kb_inlt h_2))) rfl 1 (by decide) (hK.2.w ww_1_164 rfl _) (fun _ h9 => h9) rfl dX6_board_22 ?_
        refine lv_aload_n hx hb dX6_board_25 rfl (lv_at hl 0 rfl) ?_
        refine va_get (D := D) (ci := 6) (v := .int (rd_stops z0)) (C := RX6) (T := TX6) (N := 11) hx hb hts kb_inX6 hown hK.1 hP 0 rfl rfl 10 (by decide) (hK.2.w ww_2_84 rfl _) (fun _ h9 => h9) rfl dX6_board_26 ?_
        refine lv_icmp_ne (tgt := 37) hx hb dX6_board_29 (by decide) (fun c_3 => ?_) (fun c_3 => ?_)
        · rw [if_neg c_3] at hf
          refine lv_iinc (v := (v1 + (1 : Int32))) (lv' := [(1, .int (v1 + (1 : Int32))), (0, .ref (a 0))]) hx hb dX6_board_37 hl (k := 1) rfl (by rfl) (by decide) rfl (fun ls hl => ?_)
          refine lv_goto (tgt := 2) hx hb dX6_board_40 (by decide) ?_
          exact ih _ _ _ _ _ hf hP hD hS (lv_sub hl [1, 0] rfl)
        · rw [if_pos c_3] at hf
          refine lv_aload_n hx hb dX6_board_32 rfl (lv_at hl 0 rfl) ?_
          refine lv_iload_n hx hb dX6_board_33 rfl (lv_at hl 1 rfl) ?_
          obtain ⟨r4, hc4, hf⟩ := kb_bind hf
          refine kb_cv (ws2 := (w_Ride dA a (pa 0) (pa 1) r4 ++ (w_Plan dA pa pl))) (kb_rV (n := 1) (As := [.int v1]) (rest := []) hx hb hml hown hK (c_X6_settle l D dA H.size a pa z0 pl v1 r4 hc4) ⟨ww_4_14, ww_4_11, ww_4_13, ws_29, ww_1_8, rfl, by decide, by decide⟩ rfl rfl (by decide +kernel) ⟨Nat.le_of_ble_eq_true rfl, Nat.le_of_ble_eq_true rfl⟩ hP hD hS hA hE [0, 1, 2, 3, 4, 5, 6, 7, 8, 9, 10, 11, 12, 13, 14, 15, 16, 17, 18, 19, 20, 21, 22, 23, 24, 25, 26, 27, 28, 29] rfl (by decide) 0 rfl rfl rfl hl.1 rfl (Nat.le_of_ble_eq_true rfl) dX6_board_34 ⟨Nat.le_of_ble_eq_true rfl, Nat.le_of_ble_eq_true rfl⟩) hP hD hS hA [0, 1, 2, 3, 4, 5, 6, 7, 8, 9, 10, 11, 12, 13, 14, 15, 16, 17, 18, 19, 20, 21, 22, 23, 24, 25, 26, 27, 28, 29] [] [0, 1, 2, 3, 4, 5, 6, 7, 8, 9, 10, 11, 12, 13, 14, 15, 16, 17, 18, 19, 20, 21, 22, 23, 24, 25, 26, 27, 28, 29] rfl rfl (by decide) (by decide) rfl (by decide) (fun H locs hP hD hS => ?_)
          refine lv_iinc (v := (v1 + (1 : Int32))) (lv' := [(1, .int (v1 + (1 : Int32))), (0, .ref (a 0))]) hx hb dX6_board_37 hl (k := 1) rfl (by rfl) (by decide) rfl (fun ls hl => ?_)
          refine lv_goto (tgt := 2) hx hb dX6_board_40 (by decide) ?_
          exact ih _ _ _ _ _ hf hP hD hS (lv_sub hl [1, 0] rfl)
  have E0 : ∀ (H : Heap) (locs : List Loc), va_P D vwCl (w_Ride dA a (pa 0) (pa 1) rd ++ (w_Plan dA pa pl)) H → va_D A (w_Ride dA a (pa 0) (pa 1) rd ++ (w_Plan dA pa pl)) → va_S A s.heap H locs → W p l e ({ frames := 5, cells := 0, slots := 0, locals := 126 } : Room) s m ([.ref (a 0)] : List Value).toArray below meth c H locs 0 0 Q (F0 m 0 ls []) := by
    intro H locs hP hD hS
    rw [f_X6_board] at hf
    refine lv_iconst (v := (0 : Int32)) hx hb dX6_board_0 (by decide) ?_
    refine lv_istore_n (lv' := [(1, .int (0 : Int32)), (0, .ref (a 0))]) hx hb dX6_board_1 rfl hl (by decide) rfl (fun ls hl => ?_)
    exact B_2 4096 _ _ _ _ _ hf hP hD hS (lv_sub hl [1, 0] rfl)
  exact E0 _ _ hP hD hS

noncomputable def f_X6_copyFrom_b110 (ro : RideT) (z0 : RideT) : Option (RideT) := some ((rd_set_stops (rd_set_gifts z0 (rd_gifts ro)) (rd_stops ro)))
noncomputable def f_X6_copyFrom_b94 (ro : RideT) (z0 : RideT) : Option (RideT) := f_X6_copyFrom_b110 ro (rd_set_turns (rd_set_joined z0 (rd_joined ro)) (rd_turns ro))
noncomputable def f_X6_copyFrom_b64 (ro : RideT) (z0 : RideT) : Option (RideT) := f_X6_copyFrom_b94 ro (rd_set_passed (rd_set_spent z0 (va_cpy (rd_spent ro) (rd_spent z0) ((0 : Int32)).toNatClampNeg ((0 : Int32)).toNatClampNeg ((12 : Int32)).toNatClampNeg)) (va_cpy (rd_passed ro) (rd_passed (rd_set_spent z0 (va_cpy (rd_spent ro) (rd_spent z0) ((0 : Int32)).toNatClampNeg ((0 : Int32)).toNatClampNeg ((12 : Int32)).toNatClampNeg))) ((0 : Int32)).toNatClampNeg ((0 : Int32)).toNatClampNeg ((8 : Int32)).toNatClampNeg))
noncomputable def f_X6_copyFrom_b34 (ro : RideT) (z0 : RideT) : Option (RideT) := f_X6_copyFrom_b64 ro (rd_set_turn (rd_set_luggage z0 (va_cpy (rd_luggage ro) (rd_luggage z0) ((0 : Int32)).toNatClampNeg ((0 : Int32)).toNatClampNeg ((20 : Int32)).toNatClampNeg)) (va_cpy (rd_turn ro) (rd_turn (rd_set_luggage z0 (va_cpy (rd_luggage ro) (rd_luggage z0) ((0 : Int32)).toNatClampNeg ((0 : Int32)).toNatClampNeg ((20 : Int32)).toNatClampNeg))) ((0 : Int32)).toNatClampNeg ((0 : Int32)).toNatClampNeg ((8 : Int32)).toNatClampNeg))
noncomputable def f_X6_copyFrom (rd : RideT) (ro : RideT) : Option (RideT) := (f_X9_copyFrom (rd_scene rd) (rd_scene ro)).bind fun r1 => f_X6_copyFrom_b34 ro (rd_set_place (rd_set_scene rd r1) (va_cpy (rd_place ro) (rd_place (rd_set_scene rd r1)) ((0 : Int32)).toNatClampNeg ((0 : Int32)).toNatClampNeg ((8 : Int32)).toNatClampNeg))
set_option maxHeartbeats 4000000 in
set_option maxRecDepth 100000 in
theorem c_X6_copyFrom (l : Launch) (D : va_G) (dA : Nat → ClassId) (sz : Nat) (a : Nat → Nat) (b : Nat → Nat) (e0 : Nat) (e1 : Nat) (e2 : Nat) (e3 : Nat) (rd : RideT) (ro : RideT) (u0 : RideT) (hf : f_X6_copyFrom rd ro = some (u0)) : kb_Mv l yX6_copyFrom cX6_copyFrom 2 none ({ frames := 2, cells := 0, slots := 0, locals := 85 } : Room) D dA [.ref (a 0), .ref (b 0)] sz (w_Ride dA a e0 e1 rd ++ (w_Ride dA b e2 e3 ro)) 0 0 (w_Ride dA a e2 e3 u0 ++ (w_Ride dA b e2 e3 ro)) := by
  refine Met.ofW (cc := cX6_copyFrom) (maxL := 2) (ret := none) (by decide) rfl ?_
  intro p e s m args below meth c s₁ B hml hv
  obtain ⟨rfl, hsz, hP, hK, hD0, hE⟩ := hv
  have hx := B.exec
  have hb := B.bytes
  have hr := B.returns
  have hown : s.vm.findClass RX6 = some m.cls := findClass_of_methodNamed B.named
  have hlocks := B.notSynchronized
  have hts : ∀ w ∈ kb_gw, w.before ([.ref (a 0), .ref (b 0)] : List Value).toArray s = true := fun w hw => hK.2.1 w hw _
  subst hsz
  have hD := hD0.self (sz := s.heap.size)
  generalize hAe : va_A (w_Ride dA a e0 e1 rd ++ (w_Ride dA b e2 e3 ro)) s.heap.size = A at hD hE ⊢
  have hA : ∀ q : Nat, s.heap.size ≤ q → A q := fun q h => by rw [← hAe]; exact Or.inr h
  have hS : va_S A s.heap s.heap [] := va_S.rf
  have hl := lv_entry ([.ref (a 0), .ref (b 0)]) (n := 2) (Nat.le_of_ble_eq_true rfl)
  rw [lg_entry_eq]
  generalize (lg_sl ([.ref (a 0), .ref (b 0)]) ++ List.replicate (2 - (lg_sl ([.ref (a 0), .ref (b 0)])).length) Slot.unset).toArray = ls at hl ⊢
  have hl : lv_has ls 2 [(0, .ref (a 0)), (1, .ref (b 0))] := hl
  generalize hQ : MQ below (va_Qv (fun (_ : Unit) => True) (kb_B D A (w_Ride dA a e2 e3 u0 ++ (w_Ride dA b e2 e3 ro))) A) ([.ref (a 0), .ref (b 0)] : List Value).toArray s 0 0 A = Q
  show W p l e ({ frames := 2, cells := 0, slots := 0, locals := 85 } : Room) s m ([.ref (a 0), .ref (b 0)] : List Value).toArray below meth c s.heap [] 0 0 Q (F0 m 0 ls [])
  have RET : ∀ (w0 : RideT) (H : Heap) (locs : List Loc) (ls : Array Slot) (pc : Nat), some (w0) = some (u0) → va_P D vwCl (w_Ride dA a e2 e3 w0 ++ (w_Ride dA b e2 e3 ro)) H → va_D A (w_Ride dA a e2 e3 w0 ++ (w_Ride dA b e2 e3 ro)) → va_S A s.heap H locs → decode cX6_copyFrom pc = .ok (.return_, 1) → W p l e ({ frames := 2, cells := 0, slots := 0, locals := 85 } : Room) s m ([.ref (a 0), .ref (b 0)] : List Value).toArray below meth c H locs 0 0 Q (F0 m pc ls []) := by
    intro w0 H locs ls pc hq hP hD hS hd
    cases hq
    rw [← hQ]
    exact W.vret hx hb hr (fun t ht hW => ⟨⟨(), rfl, trivial, by rw [ht]; exact hP, hD⟩, hS.F ht⟩) hS.2.2 hd
  have B_110 : ∀ (z0 : RideT) (H : Heap) (locs : List Loc) (ls : Array Slot), f_X6_copyFrom_b110 ro z0 = some (u0) → va_P D vwCl (w_Ride dA a e2 e3 z0 ++ (w_Ride dA b e2 e3 ro)) H → va_D A (w_Ride dA a e2 e3 z0 ++ (w_Ride dA b e2 e3 ro)) → va_S A s.heap H locs → lv_has ls 2 [(0, .ref (a 0)), (1, .ref (b 0))] → W p l e ({ frames := 2, cells := 0, slots := 0, locals := 85 } : Room) s m ([.ref (a 0), .ref (b 0)] : List Value).toArray below meth c H locs 0 0 Q (F0 m 110 ls []) := by
    intro z0 H locs ls hf hP hD hS hl
    rw [f_X6_copyFrom_b110] at hf
    refine lv_aload_n hx hb dX6_copyFrom_110 rfl (lv_at hl 0 rfl) ?_
    refine lv_aload_n hx hb dX6_copyFrom_111 rfl (lv_at hl 1 rfl) ?_
    refine va_get (D := D) (ci := 6) (v := .int (rd_gifts ro)) (C := RX6) (T := TX6) (N := 11) hx hb hts kb_inX6 hown hK.1 hP 9 rfl rfl 9 (by decide) (hK.2.w ww_2_82 rfl _) (fun _ h9 => h9) rfl dX6_copyFrom_112 ?_
    refine va_put (D := D) (ci := 6) (v := .int (rd_gifts ro)) (ty := .int) (C := RX6) (T := TX6) (N := 11) hx hb hts kb_inX6 tyX6 tyX6_ok nmX6 hown hK.1 hP hD hS 0 rfl rfl 9 (by decide) (hK.2.w ww_2_82 rfl _) (fun _ h9 => h9) rfl (by decide +kernel) rfl rfl (Nat.le_of_ble_eq_true rfl) dX6_copyFrom_115 (fun H locs hP hD hS => ?_)
    have hP : va_P D vwCl (w_Ride dA a e2 e3 (rd_set_gifts z0 (rd_gifts ro)) ++ (w_Ride dA b e2 e3 ro)) H := hP
    have hD : va_D A (w_Ride dA a e2 e3 (rd_set_gifts z0 (rd_gifts ro)) ++ (w_Ride dA b e2 e3 ro)) := hD
    refine lv_aload_n hx hb dX6_copyFrom_118 rfl (lv_at hl 0 rfl) ?_
    refine lv_aload_n hx hb dX6_copyFrom_119 rfl (lv_at hl 1 rfl) ?_
    refine va_get (D := D) (ci := 6) (v := .int (rd_stops ro)) (C := RX6) (T := TX6) (N := 11) hx hb hts kb_inX6 hown hK.1 hP 9 rfl rfl 10 (by decide) (hK.2.w ww_2_84 rfl _) (fun _ h9 => h9) rfl dX6_copyFrom_120 ?_
    refine va_put (D := D) (ci := 6) (v := .int (rd_stops ro)) (ty := .int) (C := RX6) (T := TX6) (N := 11) hx hb hts kb_inX6 tyX6 tyX6_ok nmX6 hown hK.1 hP hD hS 0 rfl rfl 10 (by decide) (hK.2.w ww_2_84 rfl _) (fun _ h9 => h9) rfl (by decide +kernel) rfl rfl (Nat.le_of_ble_eq_true rfl) dX6_copyFrom_123 (fun H locs hP hD hS => ?_)
    have hP : va_P D vwCl (w_Ride dA a e2 e3 (rd_set_stops (rd_set_gifts z0 (rd_gifts ro)) (rd_stops ro)) ++ (w_Ride dA b e2 e3 ro)) H := hP
    have hD : va_D A (w_Ride dA a e2 e3 (rd_set_stops (rd_set_gifts z0 (rd_gifts ro)) (rd_stops ro)) ++ (w_Ride dA b e2 e3 ro)) := hD
    exact RET _ H _ ls 126 hf hP hD hS dX6_copyFrom_126
  have B_94 : ∀ (z0 : RideT) (H : Heap) (locs : List Loc) (ls : Array Slot), f_X6_copyFrom_b94 ro z0 = some (u0) → va_P D vwCl (w_Ride dA a e2 e3 z0 ++ (w_Ride dA b e2 e3 ro)) H → va_D A (w_Ride dA a e2 e3 z0 ++ (w_Ride dA b e2 e3 ro)) → va_S A s.heap H locs → lv_has ls 2 [(0, .ref (a 0)), (1, .ref (b 0))] → W p l e ({ frames := 2, cells := 0, slots := 0, locals := 85 } : Room) s m ([.ref (a 0), .ref (b 0)] : List Value).toArray below meth c H locs 0 0 Q (F0 m 94 ls []) := by
    intro z0 H locs ls hf hP hD hS hl
    rw [f_X6_copyFrom_b94] at hf
    refine lv_aload_n hx hb dX6_copyFrom_94 rfl (lv_at hl 0 rfl) ?_
    refine lv_aload_n hx hb dX6_copyFrom_95 rfl (lv_at hl 1 rfl) ?_
    refine va_get (D := D) (ci := 6) (v := .int (rd_joined ro)) (C := RX6) (T := TX6) (N := 11) hx hb hts kb_inX6 hown hK.1 hP 9 rfl rfl 7 (by decide) (hK.2.w ww_2_80 rfl _) (fun _ h9 => h9) rfl dX6_copyFrom_96 ?_
    refine va_put (D := D) (ci := 6) (v := .int (rd_joined ro)) (ty := .int) (C := RX6) (T := TX6) (N := 11) hx hb hts kb_inX6 tyX6 tyX6_ok nmX6 hown hK.1 hP hD hS 0 rfl rfl 7 (by decide) (hK.2.w ww_2_80 rfl _) (fun _ h9 => h9) rfl (by decide +kernel) rfl rfl (Nat.le_of_ble_eq_true rfl) dX6_copyFrom_99 (fun H locs hP hD hS => ?_)
    have hP : va_P D vwCl (w_Ride dA a e2 e3 (rd_set_joined z0 (rd_joined ro)) ++ (w_Ride dA b e2 e3 ro)) H := hP
    have hD : va_D A (w_Ride dA a e2 e3 (rd_set_joined z0 (rd_joined ro)) ++ (w_Ride dA b e2 e3 ro)) := hD
    refine lv_aload_n hx hb dX6_copyFrom_102 rfl (lv_at hl 0 rfl) ?_
    refine lv_aload_n hx hb dX6_copyFrom_103 rfl (lv_at hl 1 rfl) ?_
    refine va_get (D := D) (ci := 6) (v := .int (rd_turns ro)) (C := RX6) (T := TX6) (N := 11) hx hb hts kb_inX6 hown hK.1 hP 9 rfl rfl 8 (by decide) (hK.2.w ww_2_81 rfl _) (fun _ h9 => h9) rfl dX6_copyFrom_104 ?_
    refine va_put (D := D) (ci := 6) (v := .int (rd_turns ro)) (ty := .int) (C := RX6) (T := TX6) (N := 11) hx hb hts kb_inX6 tyX6 tyX6_ok nmX6 hown hK.1 hP hD hS 0 rfl rfl 8 (by decide) (hK.2.w ww_2_81 rfl _) (fun _ h9 => h9) rfl (by decide +kernel) rfl rfl (Nat.le_of_ble_eq_true rfl) dX6_copyFrom_107 (fun H locs hP hD hS => ?_)
    have hP : va_P D vwCl (w_Ride dA a e2 e3 (rd_set_turns (rd_set_joined z0 (rd_joined ro)) (rd_turns ro)) ++ (w_Ride dA b e2 e3 ro)) H := hP
    have hD : va_D A (w_Ride dA a e2 e3 (rd_set_turns (rd_set_joined z0 (rd_joined ro)) (rd_turns ro)) ++ (w_Ride dA b e2 e3 ro)) := hD
    exact B_110 _ _ _ _ hf hP hD hS (lv_sub hl [0, 1] rfl)
  have B_64 : ∀ (z0 : RideT) (H : Heap) (locs : List Loc) (ls : Array Slot), f_X6_copyFrom_b64 ro z0 = some (u0) → va_P D vwCl (w_Ride dA a e2 e3 z0 ++ (w_Ride dA b e2 e3 ro)) H → va_D A (w_Ride dA a e2 e3 z0 ++ (w_Ride dA b e2 e3 ro)) → va_S A s.heap H locs → lv_has ls 2 [(0, .ref (a 0)), (1, .ref (b 0))] → W p l e ({ frames := 2, cells := 0, slots := 0, locals := 85 } : Room) s m ([.ref (a 0), .ref (b 0)] : List Value).toArray below meth c H locs 0 0 Q (F0 m 64 ls []) := by
    intro z0 H locs ls hf hP hD hS hl
    rw [f_X6_copyFrom_b64] at hf
    refine lv_aload_n hx hb dX6_copyFrom_64 rfl (lv_at hl 1 rfl) ?_
    refine va_get (D := D) (ci := 6) (v := .ref (b 7)) (C := RX6) (T := TX6) (N := 11) hx hb hts kb_inX6 hown hK.1 hP 9 rfl rfl 5 (by decide) (hK.2.w ww_2_77 rfl _) (fun _ h9 => h9) rfl dX6_copyFrom_65 ?_
    refine lv_iconst (v := (0 : Int32)) hx hb dX6_copyFrom_68 (by decide) ?_
    refine lv_aload_n hx hb dX6_copyFrom_69 rfl (lv_at hl 0 rfl) ?_
    refine va_get (D := D) (ci := 6) (v := .ref (a 7)) (C := RX6) (T := TX6) (N := 11) hx hb hts kb_inX6 hown hK.1 hP 0 rfl rfl 5 (by decide) (hK.2.w ww_2_77 rfl _) (fun _ h9 => h9) rfl dX6_copyFrom_70 ?_
    refine lv_iconst (v := (0 : Int32)) hx hb dX6_copyFrom_73 (by decide) ?_
    refine lv_bipush (v := (12 : Int32)) hx hb dX6_copyFrom_74 (by decide) ?_
    refine va_copyi (D := D) (ty := .int) hx hb (hml.trans hl.1.symm) hown (hK.2.w ww_4_141 rfl _) (hK.2.w ww_4_140 rfl _) (hK.2.w ww_4_139 rfl _) (hK.2.w ww_1_19 rfl _) hK.1 hP hD hS 16 7 0 0 rfl rfl rfl rfl rfl (by decide) (by decide) (by decide) (by decide) (by decide) (fun _ _ => rfl) (Nat.le_of_ble_eq_true rfl) (Nat.le_of_ble_eq_true rfl) dX6_copyFrom_76 (fun H locs hP hD hS => ?_)
    have hP : va_P D vwCl (w_Ride dA a e2 e3 (rd_set_spent z0 (va_cpy (rd_spent ro) (rd_spent z0) ((0 : Int32)).toNatClampNeg ((0 : Int32)).toNatClampNeg ((12 : Int32)).toNatClampNeg)) ++ (w_Ride dA b e2 e3 ro)) H := hP
    have hD : va_D A (w_Ride dA a e2 e3 (rd_set_spent z0 (va_cpy (rd_spent ro) (rd_spent z0) ((0 : Int32)).toNatClampNeg ((0 : Int32)).toNatClampNeg ((12 : Int32)).toNatClampNeg)) ++ (w_Ride dA b e2 e3 ro)) := hD
    refine lv_aload_n hx hb dX6_copyFrom_79 rfl (lv_at hl 1 rfl) ?_
    refine va_get (D := D) (ci := 6) (v := .ref (b 8)) (C := RX6) (T := TX6) (N := 11) hx hb hts kb_inX6 hown hK.1 hP 9 rfl rfl 6 (by decide) (hK.2.w ww_2_79 rfl _) (fun _ h9 => h9) rfl dX6_copyFrom_80 ?_
    refine lv_iconst (v := (0 : Int32)) hx hb dX6_copyFrom_83 (by decide) ?_
    refine lv_aload_n hx hb dX6_copyFrom_84 rfl (lv_at hl 0 rfl) ?_
    refine va_get (D := D) (ci := 6) (v := .ref (a 8)) (C := RX6) (T := TX6) (N := 11) hx hb hts kb_inX6 hown hK.1 hP 0 rfl rfl 6 (by decide) (hK.2.w ww_2_79 rfl _) (fun _ h9 => h9) rfl dX6_copyFrom_85 ?_
    refine lv_iconst (v := (0 : Int32)) hx hb dX6_copyFrom_88 (by decide) ?_
    refine lv_bipush (v := (8 : Int32)) hx hb dX6_copyFrom_89 (by decide) ?_
    refine va_copyi (D := D) (ty := .int) hx hb (hml.trans hl.1.symm) hown (hK.2.w ww_4_141 rfl _) (hK.2.w ww_4_140 rfl _) (hK.2.w ww_4_139 rfl _) (hK.2.w ww_1_19 rfl _) hK.1 hP hD hS 17 8 0 0 rfl rfl rfl rfl rfl (by decide) (by decide) (by decide) (by decide) (by decide) (fun _ _ => rfl) (Nat.le_of_ble_eq_true rfl) (Nat.le_of_ble_eq_true rfl) dX6_copyFrom_91 (fun H locs hP hD hS => ?_)
    have hP : va_P D vwCl (w_Ride dA a e2 e3 (rd_set_passed (rd_set_spent z0 (va_cpy (rd_spent ro) (rd_spent z0) ((0 : Int32)).toNatClampNeg ((0 : Int32)).toNatClampNeg ((12 : Int32)).toNatClampNeg)) (va_cpy (rd_passed ro) (rd_passed (rd_set_spent z0 (va_cpy (rd_spent ro) (rd_spent z0) ((0 : Int32)).toNatClampNeg ((0 : Int32)).toNatClampNeg ((12 : Int32)).toNatClampNeg))) ((0 : Int32)).toNatClampNeg ((0 : Int32)).toNatClampNeg ((8 : Int32)).toNatClampNeg)) ++ (w_Ride dA b e2 e3 ro)) H := hP
    have hD : va_D A (w_Ride dA a e2 e3 (rd_set_passed (rd_set_spent z0 (va_cpy (rd_spent ro) (rd_spent z0) ((0 : Int32)).toNatClampNeg ((0 : Int32)).toNatClampNeg ((12 : Int32)).toNatClampNeg)) (va_cpy (rd_passed ro) (rd_passed (rd_set_spent z0 (va_cpy (rd_spent ro) (rd_spent z0) ((0 : Int32)).toNatClampNeg ((0 : Int32)).toNatClampNeg ((12 : Int32)).toNatClampNeg))) ((0 : Int32)).toNatClampNeg ((0 : Int32)).toNatClampNeg ((8 : Int32)).toNatClampNeg)) ++ (w_Ride dA b e2 e3 ro)) := hD
    exact B_94 _ _ _ _ hf hP hD hS (lv_sub hl [0, 1] rfl)
  have B_34 : ∀ (z0 : RideT) (H : Heap) (locs : List Loc) (ls : Array Slot), f_X6_copyFrom_b34 ro z0 = some (u0) → va_P D vwCl (w_Ride dA a e2 e3 z0 ++ (w_Ride dA b e2 e3 ro)) H → va_D A (w_Ride dA a e2 e3 z0 ++ (w_Ride dA b e2 e3 ro)) → va_S A s.heap H locs → lv_has ls 2 [(0, .ref (a 0)), (1, .ref (b 0))] → W p l e ({ frames := 2, cells := 0, slots := 0, locals := 85 } : Room) s m ([.ref (a 0), .ref (b 0)] : List Value).toArray below meth c H locs 0 0 Q (F0 m 34 ls []) := by
    intro z0 H locs ls hf hP hD hS hl
    rw [f_X6_copyFrom_b34] at hf
    refine lv_aload_n hx hb dX6_copyFrom_34 rfl (lv_at hl 1 rfl) ?_
    refine va_get (D := D) (ci := 6) (v := .ref (b 5)) (C := RX6) (T := TX6) (N := 11) hx hb hts kb_inX6 hown hK.1 hP 9 rfl rfl 3 (by decide) (hK.2.w ww_2_72 rfl _) (fun _ h9 => h9) rfl dX6_copyFrom_35 ?_
    refine lv_iconst (v := (0 : Int32)) hx hb dX6_copyFrom_38 (by decide) ?_
    refine lv_aload_n hx hb dX6_copyFrom_39 rfl (lv_at hl 0 rfl) ?_
    refine va_get (D := D) (ci := 6) (v := .ref (a 5)) (C := RX6) (T := TX6) (N := 11) hx hb hts kb_inX6 hown hK.1 hP 0 rfl rfl 3 (by decide) (hK.2.w ww_2_72 rfl _) (fun _ h9 => h9) rfl dX6_copyFrom_40 ?_
    refine lv_iconst (v := (0 : Int32)) hx hb dX6_copyFrom_43 (by decide) ?_
    refine lv_bipush (v := (20 : Int32)) hx hb dX6_copyFrom_44 (by decide) ?_
    refine va_copyi (D := D) (ty := .int) hx hb (hml.trans hl.1.symm) hown (hK.2.w ww_4_141 rfl _) (hK.2.w ww_4_140 rfl _) (hK.2.w ww_4_139 rfl _) (hK.2.w ww_1_19 rfl _) hK.1 hP hD hS 14 5 0 0 rfl rfl rfl rfl rfl (by decide) (by decide) (by decide) (by decide) (by decide) (fun _ _ => rfl) (Nat.le_of_ble_eq_true rfl) (Nat.le_of_ble_eq_true rfl) dX6_copyFrom_46 (fun H locs hP hD hS => ?_)
    have hP : va_P D vwCl (w_Ride dA a e2 e3 (rd_set_luggage z0 (va_cpy (rd_luggage ro) (rd_luggage z0) ((0 : Int32)).toNatClampNeg ((0 : Int32)).toNatClampNeg ((20 : Int32)).toNatClampNeg)) ++ (w_Ride dA b e2 e3 ro)) H := hP
    have hD : va_D A (w_Ride dA a e2 e3 (rd_set_luggage z0 (va_cpy (rd_luggage ro) (rd_luggage z0) ((0 : Int32)).toNatClampNeg ((0 : Int32)).toNatClampNeg ((20 : Int32)).toNatClampNeg)) ++ (w_Ride dA b e2 e3 ro)) := hD
    refine lv_aload_n hx hb dX6_copyFrom_49 rfl (lv_at hl 1 rfl) ?_
    refine va_get (D := D) (ci := 6) (v := .ref (b 6)) (C := RX6) (T := TX6) (N := 11) hx hb hts kb_inX6 hown hK.1 hP 9 rfl rfl 4 (by decide) (hK.2.w ww_2_74 rfl _) (fun _ h9 => h9) rfl dX6_copyFrom_50 ?_
    refine lv_iconst (v := (0 : Int32)) hx hb dX6_copyFrom_53 (by decide) ?_
    refine lv_aload_n hx hb dX6_copyFrom_54 rfl (lv_at hl 0 rfl) ?_
    refine va_get (D := D) (ci := 6) (v := .ref (a 6)) (C := RX6) (T := TX6) (N := 11) hx hb hts kb_inX6 hown hK.1 hP 0 rfl rfl 4 (by decide) (hK.2.w ww_2_74 rfl _) (fun _ h9 => h9) rfl dX6_copyFrom_55 ?_
    refine lv_iconst (v := (0 : Int32)) hx hb dX6_copyFrom_58 (by decide) ?_
    refine lv_bipush (v := (8 : Int32)) hx hb dX6_copyFrom_59 (by decide) ?_
    refine va_copyi (D := D) (ty := .int) hx hb (hml.trans hl.1.symm) hown (hK.2.w ww_4_141 rfl _) (hK.2.w ww_4_140 rfl _) (hK.2.w ww_4_139 rfl _) (hK.2.w ww_1_19 rfl _) hK.1 hP hD hS 15 6 0 0 rfl rfl rfl rfl rfl (by decide) (by decide) (by decide) (by decide) (by decide) (fun _ _ => rfl) (Nat.le_of_ble_eq_true rfl) (Nat.le_of_ble_eq_true rfl) dX6_copyFrom_61 (fun H locs hP hD hS => ?_)
    have hP : va_P D vwCl (w_Ride dA a e2 e3 (rd_set_turn (rd_set_luggage z0 (va_cpy (rd_luggage ro) (rd_luggage z0) ((0 : Int32)).toNatClampNeg ((0 : Int32)).toNatClampNeg ((20 : Int32)).toNatClampNeg)) (va_cpy (rd_turn ro) (rd_turn (rd_set_luggage z0 (va_cpy (rd_luggage ro) (rd_luggage z0) ((0 : Int32)).toNatClampNeg ((0 : Int32)).toNatClampNeg ((20 : Int32)).toNatClampNeg))) ((0 : Int32)).toNatClampNeg ((0 : Int32)).toNatClampNeg ((8 : Int32)).toNatClampNeg)) ++ (w_Ride dA b e2 e3 ro)) H := hP
    have hD : va_D A (w_Ride dA a e2 e3 (rd_set_turn (rd_set_luggage z0 (va_cpy (rd_luggage ro) (rd_luggage z0) ((0 : Int32)).toNatClampNeg ((0 : Int32)).toNatClampNeg ((20 : Int32)).toNatClampNeg)) (va_cpy (rd_turn ro) (rd_turn (rd_set_luggage z0 (va_cpy (rd_luggage ro) (rd_luggage z0) ((0 : Int32)).toNatClampNeg ((0 : Int32)).toNatClampNeg ((20 : Int32)).toNatClampNeg))) ((0 : Int32)).toNatClampNeg ((0 : Int32)).toNatClampNeg ((8 : Int32)).toNatClampNeg)) ++ (w_Ride dA b e2 e3 ro)) := hD
    exact B_64 _ _ _ _ hf hP hD hS (lv_sub hl [0, 1] rfl)
  have E0 : ∀ (H : Heap) (locs : List Loc), va_P D vwCl (w_Ride dA a e0 e1 rd ++ (w_Ride dA b e2 e3 ro)) H → va_D A (w_Ride dA a e0 e1 rd ++ (w_Ride dA b e2 e3 ro)) → va_S A s.heap H locs → W p l e ({ frames := 2, cells := 0, slots := 0, locals := 85 } : Room) s m ([.ref (a 0), .ref (b 0)] : List Value).toArray below meth c H locs 0 0 Q (F0 m 0 ls []) := by
    intro H locs hP hD hS
    rw [f_X6_copyFrom] at hf
    refine lv_aload_n hx hb dX6_copyFrom_0 rfl (lv_at hl 0 rfl) ?_
    refine lv_aload_n hx hb dX6_copyFrom_1 rfl (lv_at hl 1 rfl) ?_
    refine va_get (D := D) (ci := 6) (v := .ref e2) (C := RX6) (T := TX6) (N := 11) hx hb hts kb_inX6 hown hK.1 hP 9 rfl rfl 0 (by decide) (hK.2.w ww_2_66 rfl _) (fun _ h9 => h9) rfl dX6_copyFrom_2 ?_
    refine va_put (D := D) (ci := 6) (v := .ref e2) (ty := .object "BusSeats$Plan") (C := RX6) (T := TX6) (N := 11) hx hb hts kb_inX6 tyX6 tyX6_ok nmX6 hown hK.1 hP hD hS 0 rfl rfl 0 (by decide) (hK.2.w ww_2_66 rfl _) (fun _ h9 => h9) rfl (by decide +kernel) rfl rfl (Nat.le_of_ble_eq_true rfl) dX6_copyFrom_5 (fun H locs hP hD hS => ?_)
    have hP : va_P D vwCl (w_Ride dA a e2 e1 rd ++ (w_Ride dA b e2 e3 ro)) H := hP
    have hD : va_D A (w_Ride dA a e2 e1 rd ++ (w_Ride dA b e2 e3 ro)) := hD
    refine lv_aload_n hx hb dX6_copyFrom_8 rfl (lv_at hl 0 rfl) ?_
    refine va_get (D := D) (ci := 6) (v := .ref (a 1)) (C := RX6) (T := TX6) (N := 11) hx hb hts kb_inX6 hown hK.1 hP 0 rfl rfl 1 (by decide) (hK.2.w ww_2_67 rfl _) (fun _ h9 => h9) rfl dX6_copyFrom_9 ?_
    refine lv_aload_n hx hb dX6_copyFrom_12 rfl (lv_at hl 1 rfl) ?_
    refine va_get (D := D) (ci := 6) (v := .ref (b 1)) (C := RX6) (T := TX6) (N := 11) hx hb hts kb_inX6 hown hK.1 hP 9 rfl rfl 1 (by decide) (hK.2.w ww_2_67 rfl _) (fun _ h9 => h9) rfl dX6_copyFrom_13 ?_
    obtain ⟨r1, hc1, hf⟩ := kb_bind hf
    refine kb_cv (ws2 := (w_Ride dA a e2 e3 (rd_set_scene rd r1) ++ (w_Ride dA b e2 e3 ro))) (kb_rV (n := 1) (As := [.ref (b 1)]) (rest := []) hx hb hml hown hK (c_X9_copyFrom l D dA H.size (fun k => a (1 + k)) (fun k => b (1 + k)) e1 e3 (rd_scene rd) (rd_scene ro) r1 hc1) ⟨ww_4_137, ww_4_134, ww_4_135, ww_4_136, ww_1_9, rfl, by decide, by decide⟩ rfl rfl (by decide +kernel) ⟨Nat.le_of_ble_eq_true rfl, Nat.le_of_ble_eq_true rfl⟩ hP hD hS hA hE [1, 2, 3, 10, 11, 12] rfl (by decide) 0 rfl rfl rfl hl.1 rfl (Nat.le_of_ble_eq_true rfl) dX6_copyFrom_16 ⟨Nat.le_of_ble_eq_true rfl, Nat.le_of_ble_eq_true rfl⟩) hP hD hS hA [1, 2, 3, 10, 11, 12] [0, 4, 5, 6, 7, 8, 9, 13, 14, 15, 16, 17] [0, 12, 13, 14, 1, 2, 3, 4, 5, 6, 15, 16, 17, 7, 8, 9, 10, 11] rfl rfl (by decide) (by decide) rfl (by decide) (fun H locs hP hD hS => ?_)
    refine lv_aload_n hx hb dX6_copyFrom_19 rfl (lv_at hl 1 rfl) ?_
    refine va_get (D := D) (ci := 6) (v := .ref (b 4)) (C := RX6) (T := TX6) (N := 11) hx hb hts kb_inX6 hown hK.1 hP 9 rfl rfl 2 (by decide) (hK.2.w ww_2_70 rfl _) (fun _ h9 => h9) rfl dX6_copyFrom_20 ?_
    refine lv_iconst (v := (0 : Int32)) hx hb dX6_copyFrom_23 (by decide) ?_
    refine lv_aload_n hx hb dX6_copyFrom_24 rfl (lv_at hl 0 rfl) ?_
    refine va_get (D := D) (ci := 6) (v := .ref (a 4)) (C := RX6) (T := TX6) (N := 11) hx hb hts kb_inX6 hown hK.1 hP 0 rfl rfl 2 (by decide) (hK.2.w ww_2_70 rfl _) (fun _ h9 => h9) rfl dX6_copyFrom_25 ?_
    refine lv_iconst (v := (0 : Int32)) hx hb dX6_copyFrom_28 (by decide) ?_
    refine lv_bipush (v := (8 : Int32)) hx hb dX6_copyFrom_29 (by decide) ?_
    refine va_copyi (D := D) (ty := .int) hx hb (hml.trans hl.1.symm) hown (hK.2.w ww_4_141 rfl _) (hK.2.w ww_4_140 rfl _) (hK.2.w ww_4_139 rfl _) (hK.2.w ww_1_19 rfl _) hK.1 hP hD hS 13 4 0 0 rfl rfl rfl rfl rfl (by decide) (by decide) (by decide) (by decide) (by decide) (fun _ _ => rfl) (Nat.le_of_ble_eq_true rfl) (Nat.le_of_ble_eq_true rfl) dX6_copyFrom_31 (fun H locs hP hD hS => ?_)
    have hP : va_P D vwCl (w_Ride dA a e2 e3 (rd_set_place (rd_set_scene rd r1) (va_cpy (rd_place ro) (rd_place (rd_set_scene rd r1)) ((0 : Int32)).toNatClampNeg ((0 : Int32)).toNatClampNeg ((8 : Int32)).toNatClampNeg)) ++ (w_Ride dA b e2 e3 ro)) H := hP
    have hD : va_D A (w_Ride dA a e2 e3 (rd_set_place (rd_set_scene rd r1) (va_cpy (rd_place ro) (rd_place (rd_set_scene rd r1)) ((0 : Int32)).toNatClampNeg ((0 : Int32)).toNatClampNeg ((8 : Int32)).toNatClampNeg)) ++ (w_Ride dA b e2 e3 ro)) := hD
    exact B_34 _ _ _ _ hf hP hD hS (lv_sub hl [0, 1] rfl)
  exact E0 _ _ hP hD hS

noncomputable def f_X6_begin_b109 (pl : PlanT) (z0 : RideT) : Option (RideT) := some ((rd_set_stops z0 (0 : Int32)))
noncomputable def f_X6_begin_b79 (pl : PlanT) : Nat → Int32 → RideT → Option (RideT)
  | 0, _, _ => none
  | n + 1, v2, z0 => (if (20 : Int32) ≤ v2 then f_X6_begin_b109 pl (rd_set_gifts (rd_set_turns z0 (0 : Int32)) (0 : Int32)) else if kb_in? v2 20 then f_X6_begin_b79 pl n (v2 + (1 : Int32)) (rd_set_luggage z0 (upd (rd_luggage z0) (v2).toNatClampNeg (-2 : Int32))) else none)
noncomputable def f_X6_begin_b66 (pl : PlanT) (k18 : Int32 → RideT → Option (RideT)) (v2 : Int32) (z0 : RideT) : Option (RideT) := k18 (v2 + (1 : Int32)) z0
noncomputable def f_X6_begin_b52 (pl : PlanT) (k18 : Int32 → RideT → Option (RideT)) (v2 : Int32) (z0 : RideT) : Option (RideT) := if kb_in? v2 8 then if kb_in? v2 8 then f_X6_begin_b66 pl k18 v2 (rd_set_passed (rd_set_turn z0 (upd (rd_turn z0) (v2).toNatClampNeg (0 : Int32))) (upd (rd_passed (rd_set_turn z0 (upd (rd_turn z0) (v2).toNatClampNeg (0 : Int32)))) (v2).toNatClampNeg (0 : Int32))) else none else none
noncomputable def f_X6_begin_b18 (pl : PlanT) : Nat → Int32 → RideT → Option (RideT)
  | 0, _, _ => none
  | n + 1, v2, z0 => (if (pl_riderCount pl) ≤ v2 then f_X6_begin_b79 pl 4096 (0 : Int32) (rd_set_joined z0 (0 : Int32)) else if kb_in? v2 8 then if kb_in? v2 9 then if kb_in? v2 8 then f_X6_begin_b52 pl (f_X6_begin_b18 pl n) v2 (rd_set_place (rd_set_scene z0 (sc_set_looks (rd_scene z0) (upd (sc_looks (rd_scene z0)) (v2).toNatClampNeg ((qr_looks (pl_riders pl)) (v2).toNatClampNeg)))) (upd (rd_place (rd_set_scene z0 (sc_set_looks (rd_scene z0) (upd (sc_looks (rd_scene z0)) (v2).toNatClampNeg ((qr_looks (pl_riders pl)) (v2).toNatClampNeg))))) (v2).toNatClampNeg (100 : Int32))) else none else none else none)
noncomputable def f_X6_begin (rd : RideT) (pl : PlanT) : Option (RideT) := (f_X9_empty (rd_scene rd)).bind fun r1 => f_X6_begin_b18 pl 4096 (0 : Int32) (rd_set_scene rd r1)
set_option maxHeartbeats 4000000 in
set_option maxRecDepth 100000 in
theorem c_X6_begin (l : Launch) (D : va_G) (dA : Nat → ClassId) (sz : Nat) (a : Nat → Nat) (pa : Nat → Nat) (e0 : Nat) (e1 : Nat) (rd : RideT) (pl : PlanT) (u0 : RideT) (hf : f_X6_begin rd pl = some (u0)) : kb_Mv l yX6_begin cX6_begin 3 none ({ frames := 1, cells := 0, slots := 0, locals := 22 } : Room) D dA [.ref (a 0), .ref (pa 0)] sz (w_Ride dA a e0 e1 rd ++ (w_Plan dA pa pl)) 0 0 (w_Ride dA a (pa 0) (pa 1) u0 ++ (w_Plan dA pa pl)) := by
  refine Met.ofW (cc := cX6_begin) (maxL := 3) (ret := none) (by decide) rfl ?_
  intro p e s m args below meth c s₁ B hml hv
  obtain ⟨rfl, hsz, hP, hK, hD0, hE⟩ := hv
  have hx := B.exec
  have hb := B.bytes
  have hr := B.returns
  have hown : s.vm.findClass RX6 = some m.cls := findClass_of_methodNamed B.named
  have hlocks := B.notSynchronized
  have hts : ∀ w ∈ kb_gw, w.before ([.ref (a 0), .ref (pa 0)] : List Value).toArray s = true := fun w hw => hK.2.1 w hw _
  subst hsz
  have hD := hD0.self (sz := s.heap.size)
  generalize hAe : va_A (w_Ride dA a e0 e1 rd ++ (w_Plan dA pa pl)) s.heap.size = A at hD hE ⊢
  have hA : ∀ q : Nat, s.heap.size ≤ q → A q := fun q h => by rw [← hAe]; exact Or.inr h
  have hS : va_S A s.heap s.heap [] := va_S.rf
  have hl := lv_entry ([.ref (a 0), .ref (pa 0)]) (n := 3) (Nat.le_of_ble_eq_true rfl)
  rw [lg_entry_eq]
  generalize (lg_sl ([.ref (a 0), .ref (pa 0)]) ++ List.replicate (3 - (lg_sl ([.ref (a 0), .ref (pa 0)])).length) Slot.unset).toArray = ls at hl ⊢
  have hl : lv_has ls 3 [(0, .ref (a 0)), (1, .ref (pa 0))] := hl
  generalize hQ : MQ below (va_Qv (fun (_ : Unit) => True) (kb_B D A (w_Ride dA a (pa 0) (pa 1) u0 ++ (w_Plan dA pa pl))) A) ([.ref (a 0), .ref (pa 0)] : List Value).toArray s 0 0 A = Q
  show W p l e ({ frames := 1, cells := 0, slots := 0, locals := 22 } : Room) s m ([.ref (a 0), .ref (pa 0)] : List Value).toArray below meth c s.heap [] 0 0 Q (F0 m 0 ls [])
  have RET : ∀ (w0 : RideT) (H : Heap) (locs : List Loc) (ls : Array Slot) (pc : Nat), some (w0) = some (u0) → va_P D vwCl (w_Ride dA a (pa 0) (pa 1) w0 ++ (w_Plan dA pa pl)) H → va_D A (w_Ride dA a (pa 0) (pa 1) w0 ++ (w_Plan dA pa pl)) → va_S A s.heap H locs → decode cX6_begin pc = .ok (.return_, 1) → W p l e ({ frames := 1, cells := 0, slots := 0, locals := 22 } : Room) s m ([.ref (a 0), .ref (pa 0)] : List Value).toArray below meth c H locs 0 0 Q (F0 m pc ls []) := by
    intro w0 H locs ls pc hq hP hD hS hd
    cases hq
    rw [← hQ]
    exact W.vret hx hb hr (fun t ht hW => ⟨⟨(), rfl, trivial, by rw [ht]; exact hP, hD⟩, hS.F ht⟩) hS.2.2 hd
  have B_109 : ∀ (z0 : RideT) (H : Heap) (locs : List Loc) (ls : Array Slot), f_X6_begin_b109 pl z0 = some (u0) → va_P D vwCl (w_Ride dA a (pa 0) (pa 1) z0 ++ (w_Plan dA pa pl)) H → va_D A (w_Ride dA a (pa 0) (pa 1) z0 ++ (w_Plan dA pa pl)) → va_S A s.heap H locs → lv_has ls 3 [(0, .ref (a 0))] → W p l e ({ frames := 1, cells := 0, slots := 0, locals := 22 } : Room) s m ([.ref (a 0), .ref (pa 0)] : List Value).toArray below meth c H locs 0 0 Q (F0 m 109 ls []) := by
    intro z0 H locs ls hf hP hD hS hl
    rw [f_X6_begin_b109] at hf
    refine lv_aload_n hx hb dX6_begin_109 rfl (lv_at hl 0 rfl) ?_
    refine lv_iconst (v := (0 : Int32)) hx hb dX6_begin_110 (by decide) ?_
    refine va_put (D := D) (ci := 6) (v := .int (0 : Int32)) (ty := .int) (C := RX6) (T := TX6) (N := 11) hx hb hts kb_inX6 tyX6 tyX6_ok nmX6 hown hK.1 hP hD hS 0 rfl rfl 10 (by decide) (hK.2.w ww_2_84 rfl _) (fun _ h9 => h9) rfl (by decide +kernel) rfl rfl (Nat.le_of_ble_eq_true rfl) dX6_begin_111 (fun H locs hP hD hS => ?_)
    have hP : va_P D vwCl (w_Ride dA a (pa 0) (pa 1) (rd_set_stops z0 (0 : Int32)) ++ (w_Plan dA pa pl)) H := hP
    have hD : va_D A (w_Ride dA a (pa 0) (pa 1) (rd_set_stops z0 (0 : Int32)) ++ (w_Plan dA pa pl)) := hD
    exact RET _ H _ ls 114 hf hP hD hS dX6_begin_114
  have B_79 : ∀ (n : Nat) (v2 : Int32) (z0 : RideT) (H : Heap) (locs : List Loc) (ls : Array Slot), f_X6_begin_b79 pl n v2 z0 = some (u0) → va_P D vwCl (w_Ride dA a (pa 0) (pa 1) z0 ++ (w_Plan dA pa pl)) H → va_D A (w_Ride dA a (pa 0) (pa 1) z0 ++ (w_Plan dA pa pl)) → va_S A s.heap H locs → lv_has ls 3 [(0, .ref (a 0)), (2, .int v2)] → W p l e ({ frames := 1, cells := 0, slots := 0, locals := 22 } : Room) s m ([.ref (a 0), .ref (pa 0)] : List Value).toArray below meth c H locs 0 0 Q (F0 m 79 ls []) := by
    intro n
    induction n with
    | zero =>
      intro v2 z0 H locs ls hf
      exact absurd hf (by simp [f_X6_begin_b79])
    | succ n ih =>
      intro v2 z0 H locs ls hf hP hD hS hl
      rw [f_X6_begin_b79] at hf
      refine lv_iload_n hx hb dX6_begin_79 rfl (lv_at hl 1 rfl) ?_
      refine lv_bipush (v := (20 : Int32)) hx hb dX6_begin_80 (by decide) ?_
      refine lv_icmp_ge (tgt := 99) hx hb dX6_begin_82 (by decide) (fun c_3 => ?_) (fun c_3 => ?_)
      · rw [if_pos c_3] at hf
        refine lv_aload_n hx hb dX6_begin_99 rfl (lv_at hl 0 rfl) ?_
        refine lv_iconst (v := (0 : Int32)) hx hb dX6_begin_100 (by decide) ?_
        refine va_put (D := D) (ci := 6) (v := .int (0 : Int32)) (ty := .int) (C := RX6) (T := TX6) (N := 11) hx hb hts kb_inX6 tyX6 tyX6_ok nmX6 hown hK.1 hP hD hS 0 rfl rfl 8 (by decide) (hK.2.w ww_2_81 rfl _) (fun _ h9 => h9) rfl (by decide +kernel) rfl rfl (Nat.le_of_ble_eq_true rfl) dX6_begin_101 (fun H locs hP hD hS => ?_)
        have hP : va_P D vwCl (w_Ride dA a (pa 0) (pa 1) (rd_set_turns z0 (0 : Int32)) ++ (w_Plan dA pa pl)) H := hP
        have hD : va_D A (w_Ride dA a (pa 0) (pa 1) (rd_set_turns z0 (0 : Int32)) ++ (w_Plan dA pa pl)) := hD
        refine lv_aload_n hx hb dX6_begin_104 rfl (lv_at hl 0 rfl) ?_
        refine lv_iconst (v := (0 : Int32)) hx hb dX6_begin_105 (by decide) ?_
        refine va_put (D := D) (ci := 6) (v := .int (0 : Int32)) (ty := .int) (C := RX6) (T := TX6) (N := 11) hx hb hts kb_inX6 tyX6 tyX6_ok nmX6 hown hK.1 hP hD hS 0 rfl rfl 9 (by decide) (hK.2.w ww_2_82 rfl _) (fun _ h9 => h9) rfl (by decide +kernel) rfl rfl (Nat.le_of_ble_eq_true rfl) dX6_begin_106 (fun H locs hP hD hS => ?_)
        have hP : va_P D vwCl (w_Ride dA a (pa 0) (pa 1) (rd_set_gifts (rd_set_turns z0 (0 : Int32)) (0 : Int32)) ++ (w_Plan dA pa pl)) H := hP
        have hD : va_D A (w_Ride dA a (pa 0) (pa 1) (rd_set_gifts (rd_set_turns z0 (0 : Int32)) (0 : Int32)) ++ (w_Plan dA pa pl)) := hD
        exact B_109 _ _ _ _ hf hP hD hS (lv_sub hl [0] rfl)
      · rw [if_neg c_3] at hf
        refine lv_aload_n hx hb dX6_begin_85 rfl (lv_at hl 0 rfl) ?_
        refine va_get (D := D) (ci := 6) (v := .ref (a 5)) (C := RX6) (T := TX6) (N := 11) hx hb hts kb_inX6 hown hK.1 hP 0 rfl rfl 3 (by decide) (hK.2.w ww_2_72 rfl _) (fun _ h9 => h9) rfl dX6_begin_86 ?_
        refine lv_iload_n hx hb dX6_begin_89 rfl (lv_at hl 1 rfl) ?_
        refine lv_bipush (v := (-2 : Int32)) hx hb dX6_begin_90 (by decide) ?_
        obtain ⟨h_4, hf⟩ := kb_if hf
        refine va_iast (D := D) hx hb hK.1 hP hD hS 5 0 rfl rfl h_4 dX6_begin_92 (fun H locs hP hD hS => ?_)
        have hP : va_P D vwCl (w_Ride dA a (pa 0) (pa 1) (rd_set_luggage z0 (upd (rd_luggage z0) (v2).toNatClampNeg (-2 : Int32))) ++ (w_Plan dA pa pl)) H := hP
        have hD : va_D A (w_Ride dA a (pa 0) (pa 1) (rd_set_luggage z0 (upd (rd_luggage z0) (v2).toNatClampNeg (-2 : Int32))) ++ (w_Plan dA pa pl)) := hD
        refine lv_iinc (v := (v2 + (1 : Int32))) (lv' := [(2, .int (v2 + (1 : Int32))), (0, .ref (a 0))]) hx hb dX6_begin_93 hl (k := 1) rfl (by rfl) (by decide) rfl (fun ls hl => ?_)
        refine lv_goto (tgt := 79) hx hb dX6_begin_96 (by decide) ?_
        exact ih _ _ _ _ _ hf hP hD hS (lv_sub hl [1, 0] rfl)
  have B_66 : ∀ (k18 : Int32 → RideT → Option (RideT)) (hk18 : ∀ (v2 : Int32) (z0 : RideT) (H : Heap) (locs : List Loc) (ls : Array Slot), k18 v2 z0 = some (u0) → va_P D vwCl (w_Ride dA a (pa 0) (pa 1) z0 ++ (w_Plan dA pa pl)) H → va_D A (w_Ride dA a (pa 0) (pa 1) z0 ++ (w_Plan dA pa pl)) → va_S A s.heap H locs → lv_has ls 3 [(0, .ref (a 0)), (1, .ref (pa 0)), (2, .int v2)] → W p l e ({ frames := 1, cells := 0, slots := 0, locals := 22 } : Room) s m ([.ref (a 0), .ref (pa 0)] : List Value).toArray below meth c H locs 0 0 Q (F0 m 18 ls [])) (v2 : Int32) (z0 : RideT) (H : Heap) (locs : List Loc) (ls : Array Slot), f_X6_begin_b66 pl k18 v2 z0 = some (u0) → va_P D vwCl (w_Ride dA a (pa 0) (pa 1) z0 ++ (w_Plan dA pa pl)) H → va_D A (w_Ride dA a (pa 0) (pa 1) z0 ++ (w_Plan dA pa pl)) → va_S A s.heap H locs → lv_has ls 3 [(0, .ref (a 0)), (1, .ref (pa 0)), (2, .int v2)] → W p l e ({ frames := 1, cells := 0, slots := 0, locals := 22 } : Room) s m ([.ref (a 0), .ref (pa 0)] : List Value).toArray below meth c H locs 0 0 Q (F0 m 66 ls []) := by
    intro k18 hk18 v2 z0 H locs ls hf hP hD hS hl
    rw [f_X6_begin_b66] at hf
    refine lv_iinc (v := (v2 + (1 : Int32))) (lv' := [(2, .int (v2 + (1 : Int32))), (0, .ref (a 0)), (1, .ref (pa 0))]) hx hb dX6_begin_66 hl (k := 2) rfl (by rfl) (by decide) rfl (fun ls hl => ?_)
    refine lv_goto (tgt := 18) hx hb dX6_begin_69 (by decide) ?_
    exact hk18 _ _ _ _ _ hf hP hD hS (lv_sub hl [1, 2, 0] rfl)
  have B_52 : ∀ (k18 : Int32 → RideT → Option (RideT)) (hk18 : ∀ (v2 : Int32) (z0 : RideT) (H : Heap) (locs : List Loc) (ls : Array Slot), k18 v2 z0 = some (u0) → va_P D vwCl (w_Ride dA a (pa 0) (pa 1) z0 ++ (w_Plan dA pa pl)) H → va_D A (w_Ride dA a (pa 0) (pa 1) z0 ++ (w_Plan dA pa pl)) → va_S A s.heap H locs → lv_has ls 3 [(0, .ref (a 0)), (1, .ref (pa 0)), (2, .int v2)] → W p l e ({ frames := 1, cells := 0, slots := 0, locals := 22 } : Room) s m ([.ref (a 0), .ref (pa 0)] : List Value).toArray below meth c H locs 0 0 Q (F0 m 18 ls [])) (v2 : Int32) (z0 : RideT) (H : Heap) (locs : List Loc) (ls : Array Slot), f_X6_begin_b52 pl k18 v2 z0 = some (u0) → va_P D vwCl (w_Ride dA a (pa 0) (pa 1) z0 ++ (w_Plan dA pa pl)) H → va_D A (w_Ride dA a (pa 0) (pa 1) z0 ++ (w_Plan dA pa pl)) → va_S A s.heap H locs → lv_has ls 3 [(0, .ref (a 0)), (1, .ref (pa 0)), (2, .int v2)] → W p l e ({ frames := 1, cells := 0, slots := 0, locals := 22 } : Room) s m ([.ref (a 0), .ref (pa 0)] : List Value).toArray below meth c H locs 0 0 Q (F0 m 52 ls []) := by
    intro k18 hk18 v2 z0 H locs ls hf hP hD hS hl
    rw [f_X6_begin_b52] at hf
    refine lv_aload_n hx hb dX6_begin_52 rfl (lv_at hl 0 rfl) ?_
    refine va_get (D := D) (ci := 6) (v := .ref (a 6)) (C := RX6) (T := TX6) (N := 11) hx hb hts kb_inX6 hown hK.1 hP 0 rfl rfl 4 (by decide) (hK.2.w ww_2_74 rfl _) (fun _ h9 => h9) rfl dX6_begin_53 ?_
    refine lv_iload_n hx hb dX6_begin_56 rfl (lv_at hl 2 rfl) ?_
    refine lv_iconst (v := (0 : Int32)) hx hb dX6_begin_57 (by decide) ?_
    obtain ⟨h_8, hf⟩ := kb_if hf
    refine va_iast (D := D) hx hb hK.1 hP hD hS 6 0 rfl rfl h_8 dX6_begin_58 (fun H locs hP hD hS => ?_)
    have hP : va_P D vwCl (w_Ride dA a (pa 0) (pa 1) (rd_set_turn z0 (upd (rd_turn z0) (v2).toNatClampNeg (0 : Int32))) ++ (w_Plan dA pa pl)) H := hP
    have hD : va_D A (w_Ride dA a (pa 0) (pa 1) (rd_set_turn z0 (upd (rd_turn z0) (v2).toNatClampNeg (0 : Int32))) ++ (w_Plan dA pa pl)) := hD
    refine lv_aload_n hx hb dX6_begin_59 rfl (lv_at hl 0 rfl) ?_
    refine va_get (D := D) (ci := 6) (v := .ref (a 8)) (C := RX6) (T := TX6) (N := 11) hx hb hts kb_inX6 hown hK.1 hP 0 rfl rfl 6 (by decide) (hK.2.w ww_2_79 rfl _) (fun _ h9 => h9) rfl dX6_begin_60 ?_
    refine lv_iload_n hx hb dX6_begin_63 rfl (lv_at hl 2 rfl) ?_
    refine lv_iconst (v := (0 : Int32)) hx hb dX6_begin_64 (by decide) ?_
    obtain ⟨h_9, hf⟩ := kb_if hf
    refine va_iast (D := D) hx hb hK.1 hP hD hS 8 0 rfl rfl h_9 dX6_begin_65 (fun H locs hP hD hS => ?_)
    have hP : va_P D vwCl (w_Ride dA a (pa 0) (pa 1) (rd_set_passed (rd_set_turn z0 (upd (rd_turn z0) (v2).toNatClampNeg (0 : Int32))) (upd (rd_passed (rd_set_turn z0 (upd (rd_turn z0) (v2).toNatClampNeg (0 : Int32)))) (v2).toNatClampNeg (0 : Int32))) ++ (w_Plan dA pa pl)) H := hP
    have hD : va_D A (w_Ride dA a (pa 0) (pa 1) (rd_set_passed (rd_set_turn z0 (upd (rd_turn z0) (v2).toNatClampNeg (0 : Int32))) (upd (rd_passed (rd_set_turn z0 (upd (rd_turn z0) (v2).toNatClampNeg (0 : Int32)))) (v2).toNatClampNeg (0 : Int32))) ++ (w_Plan dA pa pl)) := hD
    exact B_66 k18 hk18 _ _ _ _ _ hf hP hD hS (lv_sub hl [0, 1, 2] rfl)
  have B_18 : ∀ (n : Nat) (v2 : Int32) (z0 : RideT) (H : Heap) (locs : List Loc) (ls : Array Slot), f_X6_begin_b18 pl n v2 z0 = some (u0) → va_P D vwCl (w_Ride dA a (pa 0) (pa 1) z0 ++ (w_Plan dA pa pl)) H → va_D A (w_Ride dA a (pa 0) (pa 1) z0 ++ (w_Plan dA pa pl)) → va_S A s.heap H locs → lv_has ls 3 [(0, .ref (a 0)), (1, .ref (pa 0)), (2, .int v2)] → W p l e ({ frames := 1, cells := 0, slots := 0, locals := 22 } : Room) s m ([.ref (a 0), .ref (pa 0)] : List Value).toArray below meth c H locs 0 0 Q (F0 m 18 ls []) := by
    intro n
    induction n with
    | zero =>
      intro v2 z0 H locs ls hf
      exact absurd hf (by simp [f_X6_begin_b18])
    | succ n ih =>
      intro v2 z0 H locs ls hf hP hD hS hl
      rw [f_X6_begin_b18] at hf
      refine lv_iload_n hx hb dX6_begin_18 rfl (lv_at hl 2 rfl) ?_
      refine lv_aload_n hx hb dX6_begin_19 rfl (lv_at hl 1 rfl) ?_
      refine va_get (D := D) (ci := 5) (v := .int (pl_riderCount pl)) (C := RX5) (T := TX5) (N := 8) hx hb hts kb_inX5 hown hK.1 hP 9 rfl rfl 5 (by decide) (hK.2.w ww_1_234 rfl _) (fun _ h9 => h9) rfl dX6_begin_20 ?_
      refine lv_icmp_ge (tgt := 72) hx hb dX6_begin_23 (by decide) (fun c_2 => ?_) (fun c_2 => ?_)
      · rw [if_pos c_2] at hf
        refine lv_aload_n hx hb dX6_begin_72 rfl (lv_at hl 0 rfl) ?_
        refine lv_iconst (v := (0 : Int32)) hx hb dX6_begin_73 (by decide) ?_
        refine va_put (D := D) (ci := 6) (v := .int (0 : Int32)) (ty := .int) (C := RX6) (T := TX6) (N := 11) hx hb hts kb_inX6 tyX6 tyX6_ok nmX6 hown hK.1 hP hD hS 0 rfl rfl 7 (by decide) (hK.2.w ww_2_80 rfl _) (fun _ h9 => h9) rfl (by decide +kernel) rfl rfl (Nat.le_of_ble_eq_true rfl) dX6_begin_74 (fun H locs hP hD hS => ?_)
        have hP : va_P D vwCl (w_Ride dA a (pa 0) (pa 1) (rd_set_joined z0 (0 : Int32)) ++ (w_Plan dA pa pl)) H := hP
        have hD : va_D A (w_Ride dA a (pa 0) (pa 1) (rd_set_joined z0 (0 : Int32)) ++ (w_Plan dA pa pl)) := hD
        refine lv_iconst (v := (0 : Int32)) hx hb dX6_begin_77 (by decide) ?_
        refine lv_istore_n (lv' := [(2, .int (0 : Int32)), (0, .ref (a 0)), (1, .ref (pa 0))]) hx hb dX6_begin_78 rfl hl (by decide) rfl (fun ls hl => ?_)
        exact B_79 4096 _ _ _ _ _ hf hP hD hS (lv_sub hl [1, 0] rfl)
      · rw [if_neg c_2] at hf
        refine lv_aload_n hx hb dX6_begin_26 rfl (lv_at hl 0 rfl) ?_
        refine va_get (D := D) (ci := 6) (v := .ref (a 1)) (C := RX6) (T := TX6) (N := 11) hx hb hts kb_inX6 hown hK.1 hP 0 rfl rfl 1 (by decide) (hK.2.w ww_2_67 rfl _) (fun _ h9 => h9) rfl dX6_begin_27 ?_
        refine va_get (D := D) (ci := 9) (v := .ref (a 3)) (C := RX9) (T := TX9) (N := 3) hx hb hts kb_inX9 hown hK.1 hP 1 rfl rfl 1 (by decide) (hK.2.w ww_2_56 rfl _) (fun _ h9 => h9) rfl dX6_begin_30 ?_
        refine lv_iload_n hx hb dX6_begin_33 rfl (lv_at hl 2 rfl) ?_
        refine lv_aload_n hx hb dX6_begin_34 rfl (lv_at hl 1 rfl) ?_
        refine va_get (D := D) (ci := 5) (v := .ref (pa 12)) (C := RX5) (T := TX5) (N := 8) hx hb hts kb_inX5 hown hK.1 hP 9 rfl rfl 2 (by decide) (hK.2.w ww_1_223 rfl _) (fun _ h9 => h9) rfl dX6_begin_35 ?_
        refine lv_iload_n hx hb dX6_begin_38 rfl (lv_at hl 2 rfl) ?_
        obtain ⟨h_5, hf⟩ := kb_if hf
        refine va_aldq (D := D) hx hb hK.1 hP 21 5 rfl rfl h_5 dX6_begin_39 ?_
        show W p l e ({ frames := 1, cells := 0, slots := 0, locals := 22 } : Room) s m ([.ref (a 0), .ref (pa 0)] : List Value).toArray below meth c _ _ 0 0 Q (F0 m 40 _ [.ref (pa (13 + (v2).toNatClampNeg)), .int v2, .ref (a 3)])
        refine va_get (D := D) (ci := 7) (v := .int ((qr_looks (pl_riders pl)) (v2).toNatClampNeg)) (C := RX7) (T := TX7) (N := 10) hx hb hts kb_inX7 hown hK.1 hP (9 + (13 + (v2).toNatClampNeg)) (kb_at rfl (at_Plan_13 dA pa pl (v2).toNatClampNeg (kb_inlt h_5))) rfl 4 (by decide) (hK.2.w ww_1_173 rfl _) (fun _ h9 => h9) rfl dX6_begin_40 ?_
        obtain ⟨h_6, hf⟩ := kb_if hf
        refine va_iast (D := D) hx hb hK.1 hP hD hS 3 0 rfl rfl h_6 dX6_begin_43 (fun H locs hP hD hS => ?_)
        have hP : va_P D vwCl (w_Ride dA a (pa 0) (pa 1) (rd_set_scene z0 (sc_set_looks (rd_scene z0) (upd (sc_looks (rd_scene z0)) (v2).toNatClampNeg ((qr_looks (pl_riders pl)) (v2).toNatClampNeg)))) ++ (w_Plan dA pa pl)) H := hP
        have hD : va_D A (w_Ride dA a (pa 0) (pa 1) (rd_set_scene z0 (sc_set_looks (rd_scene z0) (upd (sc_looks (rd_scene z0)) (v2).toNatClampNeg ((qr_looks (pl_riders pl)) (v2).toNatClampNeg)))) ++ (w_Plan dA pa pl)) := hD
        refine lv_aload_n hx hb dX6_begin_44 rfl (lv_at hl 0 rfl) ?_
        refine va_get (D := D) (ci := 6) (v := .ref (a 4)) (C := RX6) (T := TX6) (N := 11) hx hb hts kb_inX6 hown hK.1 hP 0 rfl rfl 2 (by decide) (hK.2.w ww_2_70 rfl _) (fun _ h9 => h9) rfl dX6_begin_45 ?_
        refine lv_iload_n hx hb dX6_begin_48 rfl (lv_at hl 2 rfl) ?_
        refine lv_bipush (v := (100 : Int32)) hx hb dX6_begin_49 (by decide) ?_
        obtain ⟨h_7, hf⟩ := kb_if hf
        refine va_iast (D := D) hx hb hK.1 hP hD hS 4 0 rfl rfl h_7 dX6_begin_51 (fun H locs hP hD hS => ?_)
        have hP : va_P D vwCl (w_Ride dA a (pa 0) (pa 1) (rd_set_place (rd_set_scene z0 (sc_set_looks (rd_scene z0) (upd (sc_looks (rd_scene z0)) (v2).toNatClampNeg ((qr_looks (pl_riders pl)) (v2).toNatClampNeg)))) (upd (rd_place (rd_set_scene z0 (sc_set_looks (rd_scene z0) (upd (sc_looks (rd_scene z0)) (v2).toNatClampNeg ((qr_looks (pl_riders pl)) (v2).toNatClampNeg))))) (v2).toNatClampNeg (100 : Int32))) ++ (w_Plan dA pa pl)) H := hP
        have hD : va_D A (w_Ride dA a (pa 0) (pa 1) (rd_set_place (rd_set_scene z0 (sc_set_looks (rd_scene z0) (upd (sc_looks (rd_scene z0)) (v2).toNatClampNeg ((qr_looks (pl_riders pl)) (v2).toNatClampNeg)))) (upd (rd_place (rd_set_scene z0 (sc_set_looks (rd_scene z0) (upd (sc_looks (rd_scene z0)) (v2).toNatClampNeg ((qr_looks (pl_riders pl)) (v2).toNatClampNeg))))) (v2).toNatClampNeg (100 : Int32))) ++ (w_Plan dA pa pl)) := hD
        exact B_52 (f_X6_begin_b18 pl n) ih _ _ _ _ _ hf hP hD hS (lv_sub hl [0, 1, 2] rfl)
  have E0 : ∀ (H : Heap) (locs : List Loc), va_P D vwCl (w_Ride dA a e0 e1 rd ++ (w_Plan dA pa pl)) H → va_D A (w_Ride dA a e0 e1 rd ++ (w_Plan dA pa pl)) → va_S A s.heap H locs → W p l e ({ frames := 1, cells := 0, slots := 0, locals := 22 } : Room) s m ([.ref (a 0), .ref (pa 0)] : List Value).toArray below meth c H locs 0 0 Q (F0 m 0 ls []) := by
    intro H locs hP hD hS
    rw [f_X6_begin] at hf
    refine lv_aload_n hx hb dX6_begin_0 rfl (lv_at hl 0 rfl) ?_
    refine lv_aload_n hx hb dX6_begin_1 rfl (lv_at hl 1 rfl) ?_
    refine va_put (D := D) (ci := 6) (v := .ref (pa 0)) (ty := .object "BusSeats$Plan") (C := RX6) (T := TX6) (N := 11) hx hb hts kb_inX6 tyX6 tyX6_ok nmX6 hown hK.1 hP hD hS 0 rfl rfl 0 (by decide) (hK.2.w ww_2_66 rfl _) (fun _ h9 => h9) rfl (by decide +kernel) rfl rfl (Nat.le_of_ble_eq_true rfl) dX6_begin_2 (fun H locs hP hD hS => ?_)
    have hP : va_P D vwCl (w_Ride dA a (pa 0) e1 rd ++ (w_Plan dA pa pl)) H := hP
    have hD : va_D A (w_Ride dA a (pa 0) e1 rd ++ (w_Plan dA pa pl)) := hD
    refine lv_aload_n hx hb dX6_begin_5 rfl (lv_at hl 0 rfl) ?_
    refine va_get (D := D) (ci := 6) (v := .ref (a 1)) (C := RX6) (T := TX6) (N := 11) hx hb hts kb_inX6 hown hK.1 hP 0 rfl rfl 1 (by decide) (hK.2.w ww_2_67 rfl _) (fun _ h9 => h9) rfl dX6_begin_6 ?_
    refine lv_aload_n hx hb dX6_begin_9 rfl (lv_at hl 1 rfl) ?_
    refine va_get (D := D) (ci := 5) (v := .ref (pa 1)) (C := RX5) (T := TX5) (N := 8) hx hb hts kb_inX5 hown hK.1 hP 9 rfl rfl 0 (by decide) (hK.2.w ww_1_214 rfl _) (fun _ h9 => h9) rfl dX6_begin_10 ?_
    obtain ⟨r1, hc1, hf⟩ := kb_bind hf
    refine kb_cv (ws2 := (w_Ride dA a (pa 0) (pa 1) (rd_set_scene rd r1) ++ (w_Plan dA pa pl))) (kb_rV (n := 1) (As := [.ref (pa 1)]) (rest := []) hx hb hml hown hK (c_X9_empty l D dA H.size (fun k => a (1 + k)) e1 (pa 1) (rd_scene rd) r1 hc1) ⟨ww_3_180, ww_3_177, ww_3_178, ww_3_179, ww_1_9, rfl, by decide, by decide⟩ rfl rfl (by decide +kernel) ⟨Nat.le_of_ble_eq_true rfl, Nat.le_of_ble_eq_true rfl⟩ hP hD hS hA hE [1, 2, 3] rfl (by decide) 0 rfl rfl rfl hl.1 rfl (Nat.le_of_ble_eq_true rfl) dX6_begin_13 ⟨Nat.le_of_ble_eq_true rfl, Nat.le_of_ble_eq_true rfl⟩) hP hD hS hA [1, 2, 3] [0, 4, 5, 6, 7, 8, 9, 10, 11, 12, 13, 14, 15, 16, 17, 18, 19, 20, 21, 22, 23, 24, 25, 26, 27, 28, 29] [0, 27, 28, 29, 1, 2, 3, 4, 5, 6, 7, 8, 9, 10, 11, 12, 13, 14, 15, 16, 17, 18, 19, 20, 21, 22, 23, 24, 25, 26] rfl rfl (by decide) (by decide) rfl (by decide) (fun H locs hP hD hS => ?_)
    refine lv_iconst (v := (0 : Int32)) hx hb dX6_begin_16 (by decide) ?_
    refine lv_istore_n (lv' := [(2, .int (0 : Int32)), (0, .ref (a 0)), (1, .ref (pa 0))]) hx hb dX6_begin_17 rfl hl (by decide) rfl (fun ls hl => ?_)
    exact B_18 4096 _ _ _ _ _ hf hP hD hS (lv_sub hl [1, 2, 0] rfl)
  exact E0 _ _ hP hD hS
