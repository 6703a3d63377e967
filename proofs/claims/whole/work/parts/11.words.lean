noncomputable def f_X4_wayText (x0 : Int32) : Option (Nat) := (if x0 = (0 : Int32) then some (11) else (if x0 = (1 : Int32) then some (12) else (if x0 = (2 : Int32) then some (13) else (if x0 = (3 : Int32) then some (14) else (if x0 = (4 : Int32) then some (15) else (if x0 = (5 : Int32) then some (16) else (if x0 = (6 : Int32) then some (17) else (if x0 = (7 : Int32) then some (18) else some (19)))))))))
set_option maxHeartbeats 4000000 in
set_option maxRecDepth 100000 in
theorem c_X4_wayText (l : Launch) (D : va_G) (dA : Nat → ClassId) (sz : Nat) (x0 : Int32) (rv : Nat) (hf : f_X4_wayText x0 = some (rv)) : kb_Ms l yX4_wayText cX4_wayText 1 (some (.object "java/lang/String")) ({ frames := 0, cells := 0, slots := 0, locals := 0 } : Room) D dA [.int x0] sz ([] : va_W) 0 0 rv ([] : va_W) := by
  refine Met.ofW (cc := cX4_wayText) (maxL := 1) (ret := (some (.object "java/lang/String"))) (by decide) rfl ?_
  intro p e s m args below meth c s₁ B hml hv
  obtain ⟨rfl, hsz, hP, hK, hD0, hE⟩ := hv
  have hx := B.exec
  have hb := B.bytes
  have hr := B.returns
  have hown : s.vm.findClass RX4 = some m.cls := findClass_of_methodNamed B.named
  have hlocks := B.notSynchronized
  have hts : ∀ w ∈ kb_gw, w.before ([.int x0] : List Value).toArray s = true := fun w hw => hK.2.1 w hw _
  subst hsz
  have hD := hD0.self (sz := s.heap.size)
  generalize hAe : va_A ([] : va_W) s.heap.size = A at hD hE ⊢
  have hA : ∀ q : Nat, s.heap.size ≤ q → A q := fun q h => by rw [← hAe]; exact Or.inr h
  have hS : va_S A s.heap s.heap [] := va_S.rf
  have hl := lv_entry ([.int x0]) (n := 1) (Nat.le_of_ble_eq_true rfl)
  rw [lg_entry_eq]
  generalize (lg_sl ([.int x0]) ++ List.replicate (1 - (lg_sl ([.int x0])).length) Slot.unset).toArray = ls at hl ⊢
  have hl : lv_has ls 1 [(0, .int x0)] := hl
  generalize hQ : MQ below (va_Qr (fun (_ : Unit) => True) (fun (_ : Unit) (q : Nat) (t : State) => q = dA (100 + rv) ∧ kb_B D A ([] : va_W) () t) A) ([.int x0] : List Value).toArray s 0 0 A = Q
  show W p l e ({ frames := 0, cells := 0, slots := 0, locals := 0 } : Room) s m ([.int x0] : List Value).toArray below meth c s.heap [] 0 0 Q (F0 m 0 ls [])
  have RET : ∀ (r2 : Nat) (H : Heap) (locs : List Loc) (ls : Array Slot) (pc : Nat), some (r2) = some (rv) → va_P D vwCl ([] : va_W) H → va_D A ([] : va_W) → va_S A s.heap H locs → decode cX4_wayText pc = .ok (.areturn, 1) → W p l e ({ frames := 0, cells := 0, slots := 0, locals := 0 } : Room) s m ([.int x0] : List Value).toArray below meth c H locs 0 0 Q (F0 m pc ls [.ref (dA (100 + r2))]) := by
    intro r2 H locs ls pc hq hP hD hS hd
    cases hq
    rw [← hQ]
    exact W.aret hx hb hr (Or.inl ⟨_, rfl⟩) (Or.inr ⟨_, rfl⟩) (fun t ht hW => ⟨⟨(), _, rfl, trivial, rfl, by rw [ht]; exact hP, hD⟩, hS.F ht⟩) hS.2.2 hd
  have E0 : ∀ (H : Heap) (locs : List Loc), va_P D vwCl ([] : va_W) H → va_D A ([] : va_W) → va_S A s.heap H locs → W p l e ({ frames := 0, cells := 0, slots := 0, locals := 0 } : Room) s m ([.int x0] : List Value).toArray below meth c H locs 0 0 Q (F0 m 0 ls []) := by
    intro H locs hP hD hS
    rw [f_X4_wayText] at hf
    refine lv_iload_n hx hb dX4_wayText_0 rfl (lv_at hl 0 rfl) ?_
    by_cases c_1 : x0 = (0 : Int32)
    · rw [if_pos c_1] at hf
      refine lv_tableIn (tgt := 48) hx hb dX4_wayText_1 (by rw [c_1]; decide) (by rw [c_1]; decide) (by rw [c_1]; rfl) (by decide) ?_
      refine kb_ldcwS (tx := "alone") (q := dA (100 + 11)) hx hb hown (hE.2.2.2 ("BusSeats$Parser", 275, "alone", 11) (by decide)) dX4_wayText_48 ?_
      exact RET _ H _ ls 51 hf hP hD hS dX4_wayText_51
    · rw [if_neg c_1] at hf
      by_cases c_2 : x0 = (1 : Int32)
      · rw [if_pos c_2] at hf
        refine lv_tableIn (tgt := 52) hx hb dX4_wayText_1 (by rw [c_2]; decide) (by rw [c_2]; decide) (by rw [c_2]; rfl) (by decide) ?_
        refine kb_ldcwS (tx := "far") (q := dA (100 + 12)) hx hb hown (hE.2.2.2 ("BusSeats$Parser", 277, "far", 12) (by decide)) dX4_wayText_52 ?_
        exact RET _ H _ ls 55 hf hP hD hS dX4_wayText_55
      · rw [if_neg c_2] at hf
        by_cases c_3 : x0 = (2 : Int32)
        · rw [if_pos c_3] at hf
          refine lv_tableIn (tgt := 56) hx hb dX4_wayText_1 (by rw [c_3]; decide) (by rw [c_3]; decide) (by rw [c_3]; rfl) (by decide) ?_
          refine kb_ldcwS (tx := "window") (q := dA (100 + 13)) hx hb hown (hE.2.2.2 ("BusSeats$Parser", 279, "window", 13) (by decide)) dX4_wayText_56 ?_
          exact RET _ H _ ls 59 hf hP hD hS dX4_wayText_59
        · rw [if_neg c_3] at hf
          by_cases c_4 : x0 = (3 : Int32)
          · rw [if_pos c_4] at hf
            refine lv_tableIn (tgt := 60) hx hb dX4_wayText_1 (by rw [c_4]; decide) (by rw [c_4]; decide) (by rw [c_4]; rfl) (by decide) ?_
            refine kb_ldcwS (tx := "aisle") (q := dA (100 + 14)) hx hb hown (hE.2.2.2 ("BusSeats$Parser", 281, "aisle", 14) (by decide)) dX4_wayText_60 ?_
            exact RET _ H _ ls 63 hf hP hD hS dX4_wayText_63
          · rw [if_neg c_4] at hf
            by_cases c_5 : x0 = (4 : Int32)
            · rw [if_pos c_5] at hf
              refine lv_tableIn (tgt := 64) hx hb dX4_wayText_1 (by rw [c_5]; decide) (by rw [c_5]; decide) (by rw [c_5]; rfl) (by decide) ?_
              refine kb_ldcwS (tx := "front") (q := dA (100 + 15)) hx hb hown (hE.2.2.2 ("BusSeats$Parser", 283, "front", 15) (by decide)) dX4_wayText_64 ?_
              exact RET _ H _ ls 67 hf hP hD hS dX4_wayText_67
            · rw [if_neg c_5] at hf
              by_cases c_6 : x0 = (5 : Int32)
              · rw [if_pos c_6] at hf
                refine lv_tableIn (tgt := 68) hx hb dX4_wayText_1 (by rw [c_6]; decide) (by rw [c_6]; decide) (by rw [c_6]; rfl) (by decide) ?_
                refine kb_ldcwS (tx := "back") (q := dA (100 + 16)) hx hb hown (hE.2.2.2 ("BusSeats$Parser", 285, "back", 16) (by decide)) dX4_wayText_68 ?_
                exact RET _ H _ ls 71 hf hP hD hS dX4_wayText_71
              · rw [if_neg c_6] at hf
                by_cases c_7 : x0 = (6 : Int32)
                · rw [if_pos c_7] at hf
                  refine lv_tableIn (tgt := 72) hx hb dX4_wayText_1 (by rw [c_7]; decide) (by rw [c_7]; decide) (by rw [c_7]; rfl) (by decide) ?_
                  refine kb_ldcwS (tx := "shade") (q := dA (100 + 17)) hx hb hown (hE.2.2.2 ("BusSeats$Parser", 287, "shade", 17) (by decide)) dX4_wayText_72 ?_
                  exact RET _ H _ ls 75 hf hP hD hS dX4_wayText_75
                · rw [if_neg c_7] at hf
                  by_cases c_8 : x0 = (7 : Int32)
                  · rw [if_pos c_8] at hf
                    refine lv_tableIn (tgt := 76) hx hb dX4_wayText_1 (by rw [c_8]; decide) (by rw [c_8]; decide) (by rw [c_8]; rfl) (by decide) ?_
                    refine kb_ldcwS (tx := "like") (q := dA (100 + 18)) hx hb hown (hE.2.2.2 ("BusSeats$Parser", 289, "like", 18) (by decide)) dX4_wayText_76 ?_
                    exact RET _ H _ ls 79 hf hP hD hS dX4_wayText_79
                  · rw [if_neg c_8] at hf
                    refine lv_tableOut (tgt := 80) hx hb dX4_wayText_1 (kb_sw 0 7 (fun k q1 q2 => by
                        rcases (show k = 0 ∨ k = 1 ∨ k = 2 ∨ k = 3 ∨ k = 4 ∨ k = 5 ∨ k = 6 ∨ k = 7 by omega) with rfl | rfl | rfl | rfl | rfl | rfl | rfl | rfl
                        · exact fun e => c_1 (e.trans (by decide))
                        · exact fun e => c_2 (e.trans (by decide))
                        · exact fun e => c_3 (e.trans (by decide))
                        · exact fun e => c_4 (e.trans (by decide))
                        · exact fun e => c_5 (e.trans (by decide))
                        · exact fun e => c_6 (e.trans (by decide))
                        · exact fun e => c_7 (e.trans (by decide))
                        · exact fun e => c_8 (e.trans (by decide)))) (by decide) ?_
                    refine kb_ldcwS (tx := "friend") (q := dA (100 + 19)) hx hb hown (hE.2.2.2 ("BusSeats$Parser", 291, "friend", 19) (by decide)) dX4_wayText_80 ?_
                    exact RET _ H _ ls 83 hf hP hD hS dX4_wayText_83
  exact E0 _ _ hP hD hS

noncomputable def f_X4_wayHere_b2 (ps : ParserT) : Nat → Int32 → Option (Int32)
  | 0, _ => none
  | n + 1, v1 => (if (9 : Int32) ≤ v1 then some ((-1 : Int32)) else (f_X4_wayText v1).bind fun r2 => if r2 < kb_N then (f_X4_isWord ps r2).bind fun r4 => (if r4 = 0 then f_X4_wayHere_b2 ps n (v1 + (1 : Int32)) else some (v1)) else none)
noncomputable def f_X4_wayHere (ps : ParserT) : Option (Int32) := f_X4_wayHere_b2 ps 4096 (0 : Int32)
set_option maxHeartbeats 4000000 in
set_option maxRecDepth 100000 in
theorem c_X4_wayHere (l : Launch) (D : va_G) (dA : Nat → ClassId) (sz : Nat) (a : Nat → Nat) (ps : ParserT) (rv : Int32) (hf : f_X4_wayHere ps = some (rv)) : kb_Mi l yX4_wayHere cX4_wayHere 2 (some .int) ({ frames := 5, cells := 0, slots := 0, locals := 107 } : Room) D dA [.ref (a 0)] sz (w_Parser dA a ps) 0 0 rv (w_Parser dA a ps) := by
  refine Met.ofW (cc := cX4_wayHere) (maxL := 2) (ret := (some .int)) (by decide) rfl ?_
  intro p e s m args below meth c s₁ B hml hv
  obtain ⟨rfl, hsz, hP, hK, hD0, hE⟩ := hv
  have hx := B.exec
  have hb := B.bytes
  have hr := B.returns
  have hown : s.vm.findClass RX4 = some m.cls := findClass_of_methodNamed B.named
  have hlocks := B.notSynchronized
  have hts : ∀ w ∈ kb_gw, w.before ([.ref (a 0)] : List Value).toArray s = true := fun w hw => hK.2.1 w hw _
  subst hsz
  have hD := hD0.self (sz := s.heap.size)
  generalize hAe : va_A (w_Parser dA a ps) s.heap.size = A at hD hE ⊢
  have hA : ∀ q : Nat, s.heap.size ≤ q → A q := fun q h => by rw [← hAe]; exact Or.inr h
  have hS : va_S A s.heap s.heap [] := va_S.rf
  have hl := lv_entry ([.ref (a 0)]) (n := 2) (Nat.le_of_ble_eq_true rfl)
  rw [lg_entry_eq]
  generalize (lg_sl ([.ref (a 0)]) ++ List.replicate (2 - (lg_sl ([.ref (a 0)])).length) Slot.unset).toArray = ls at hl ⊢
  have hl : lv_has ls 2 [(0, .ref (a 0))] := hl
  generalize hQ : MQ below (va_Qi (fun r (_ : Unit) => r = rv) (kb_B D A (w_Parser dA a ps)) A) ([.ref (a 0)] : List Value).toArray s 0 0 A = Q
  show W p l e ({ frames := 5, cells := 0, slots := 0, locals := 107 } : Room) s m ([.ref (a 0)] : List Value).toArray below meth c s.heap [] 0 0 Q (F0 m 0 ls [])
  have RET : ∀ (r2 : Int32) (H : Heap) (locs : List Loc) (ls : Array Slot) (pc : Nat), some (r2) = some (rv) → va_P D vwCl (w_Parser dA a ps) H → va_D A (w_Parser dA a ps) → va_S A s.heap H locs → decode cX4_wayHere pc = .ok (.ireturn, 1) → W p l e ({ frames := 5, cells := 0, slots := 0, locals := 107 } : Room) s m ([.ref (a 0)] : List Value).toArray below meth c H locs 0 0 Q (F0 m pc ls [.int r2]) := by
    intro r2 H locs ls pc hq hP hD hS hd
    cases hq
    rw [← hQ]
    exact W.iret hx hb hr (fun t ht hW => ⟨⟨_, (), rfl, rfl, by rw [ht]; exact hP, hD⟩, hS.F ht⟩) hS.2.2 hd
  have B_2 : ∀ (n : Nat) (v1 : Int32) (H : Heap) (locs : List Loc) (ls : Array Slot), f_X4_wayHere_b2 ps n v1 = some (rv) → va_P D vwCl (w_Parser dA a ps) H → va_D A (w_Parser dA a ps) → va_S A s.heap H locs → lv_has ls 2 [(0, .ref (a 0)), (1, .int v1)] → W p l e ({ frames := 5, cells := 0, slots := 0, locals := 107 } : Room) s m ([.ref (a 0)] : List Value).toArray below meth c H locs 0 0 Q (F0 m 2 ls []) := by
    intro n
    induction n with
    | zero =>
      intro v1 H locs ls hf
      exact absurd hf (by simp [f_X4_wayHere_b2])
    | succ n ih =>
      intro v1 H locs ls hf hP hD hS hl
      rw [f_X4_wayHere_b2] at hf
      refine lv_iload_n hx hb dX4_wayHere_2 rfl (lv_at hl 1 rfl) ?_
      refine lv_bipush (v := (9 : Int32)) hx hb dX4_wayHere_3 (by decide) ?_
      refine lv_icmp_ge (tgt := 27) hx hb dX4_wayHere_5 (by decide) (fun c_1 => ?_) (fun c_1 => ?_)
      · rw [if_pos c_1] at hf
        refine lv_iconst (v := (-1 : Int32)) hx hb dX4_wayHere_27 (by decide) ?_
        exact RET _ H _ ls 28 hf hP hD hS dX4_wayHere_28
      · rw [if_neg c_1] at hf
        refine lv_aload_n hx hb dX4_wayHere_8 rfl (lv_at hl 0 rfl) ?_
        refine lv_iload_n hx hb dX4_wayHere_9 rfl (lv_at hl 1 rfl) ?_
        obtain ⟨r2, hc2, hf⟩ := kb_bind hf
        obtain ⟨h_3, hf⟩ := kb_if hf
        refine kb_cs (ws2 := (w_Parser dA a ps)) (kb_rS (n := 1) (As := [.int v1]) (rest := [.ref (a 0)]) hx hb hml hown hK (c_X4_wayText l D dA H.size v1 r2 hc2) ⟨ww_3_104, ww_3_102, ww_3_103, ww_1_2, by decide, by decide⟩ rfl rfl (by decide +kernel) ⟨Nat.le_of_ble_eq_true rfl, Nat.le_of_ble_eq_true rfl⟩ hP hD hS hA hE [] rfl (by decide) rfl hl.1 rfl (Nat.le_of_ble_eq_true rfl) dX4_wayHere_10 ⟨Nat.le_of_ble_eq_true rfl, Nat.le_of_ble_eq_true rfl⟩) hP hD hS hA [] [0, 1] [0, 1] rfl rfl (by decide) (by decide) rfl (by decide) (fun H locs hP hD hS => ?_)
        obtain ⟨r4, hc4, hf⟩ := kb_bind hf
        refine kb_ci (ws2 := (w_Parser dA a ps)) (kb_rV (n := 1) (As := [.ref (dA (100 + r2))]) (rest := []) hx hb hml hown hK (c_X4_isWord l D dA H.size a ps r2 h_3 r4 hc4) ⟨ww_2_233, ww_2_230, ww_2_232, ws_4, ww_1_2, rfl, by decide, by decide⟩ rfl rfl (by decide +kernel) ⟨Nat.le_of_ble_eq_true rfl, Nat.le_of_ble_eq_true rfl⟩ hP hD hS hA hE [0, 1] rfl (by decide) 0 rfl rfl rfl hl.1 rfl (Nat.le_of_ble_eq_true rfl) dX4_wayHere_13 ⟨Nat.le_of_ble_eq_true rfl, Nat.le_of_ble_eq_true rfl⟩) hP hD hS hA [0, 1] [] [0, 1] rfl rfl (by decide) (by decide) rfl (by decide) (fun H locs hP hD hS => ?_)
        refine lv_if_eq (tgt := 21) hx hb dX4_wayHere_16 (by decide) (fun c_5 => ?_) (fun c_5 => ?_)
        · rw [if_pos c_5] at hf
          refine lv_iinc (v := (v1 + (1 : Int32))) (lv' := [(1, .int (v1 + (1 : Int32))), (0, .ref (a 0))]) hx hb dX4_wayHere_21 hl (k := 1) rfl (by rfl) (by decide) rfl (fun ls hl => ?_)
          refine lv_goto (tgt := 2) hx hb dX4_wayHere_24 (by decide) ?_
          exact ih _ _ _ _ hf hP hD hS (lv_sub hl [1, 0] rfl)
        · rw [if_neg c_5] at hf
          refine lv_iload_n hx hb dX4_wayHere_19 rfl (lv_at hl 1 rfl) ?_
          exact RET _ H _ ls 20 hf hP hD hS dX4_wayHere_20
  have E0 : ∀ (H : Heap) (locs : List Loc), va_P D vwCl (w_Parser dA a ps) H → va_D A (w_Parser dA a ps) → va_S A s.heap H locs → W p l e ({ frames := 5, cells := 0, slots := 0, locals := 107 } : Room) s m ([.ref (a 0)] : List Value).toArray below meth c H locs 0 0 Q (F0 m 0 ls []) := by
    intro H locs hP hD hS
    rw [f_X4_wayHere] at hf
    refine lv_iconst (v := (0 : Int32)) hx hb dX4_wayHere_0 (by decide) ?_
    refine lv_istore_n (lv' := [(1, .int (0 : Int32)), (0, .ref (a 0))]) hx hb dX4_wayHere_1 rfl hl (by decide) rfl (fun ls hl => ?_)
    exact B_2 4096 _ _ _ _ hf hP hD hS (lv_sub hl [1, 0] rfl)
  exact E0 _ _ hP hD hS

noncomputable def f_X4_isName_b83 (ps : ParserT)  : Option (Int32) := some ((0 : Int32))
noncomputable def f_X4_isName (ps : ParserT) : Option (Int32) := (if (ps_kind ps) = (1 : Int32) then (f_X4_wayHere ps).bind fun r2 => (if r2 = (-1 : Int32) then (f_X4_isWord ps 0).bind fun r4 => (if r4 = 0 then (f_X4_isWord ps 10).bind fun r6 => (if r6 = 0 then (f_X4_isWord ps 20).bind fun r8 => (if r8 = 0 then (f_X4_isWord ps 21).bind fun r10 => (if r10 = 0 then (f_X4_isWord ps 22).bind fun r12 => (if r12 = 0 then (f_X4_isWord ps 23).bind fun r14 => (if r14 = 0 then (f_X4_isWord ps 24).bind fun r16 => (if r16 = 0 then some ((1 : Int32)) else f_X4_isName_b83 ps ) else f_X4_isName_b83 ps ) else f_X4_isName_b83 ps ) else f_X4_isName_b83 ps ) else f_X4_isName_b83 ps ) else f_X4_isName_b83 ps ) else f_X4_isName_b83 ps ) else f_X4_isName_b83 ps ) else f_X4_isName_b83 ps )
set_option maxHeartbeats 4000000 in
set_option maxRecDepth 100000 in
theorem c_X4_isName (l : Launch) (D : va_G) (dA : Nat → ClassId) (sz : Nat) (a : Nat → Nat) (ps : ParserT) (rv : Int32) (hf : f_X4_isName ps = some (rv)) : kb_Mi l yX4_isName cX4_isName 1 (some .boolean) ({ frames := 6, cells := 0, slots := 0, locals := 128 } : Room) D dA [.ref (a 0)] sz (w_Parser dA a ps) 0 0 rv (w_Parser dA a ps) := by
  refine Met.ofW (cc := cX4_isName) (maxL := 1) (ret := (some .boolean)) (by decide) rfl ?_
  intro p e s m args below meth c s₁ B hml hv
  obtain ⟨rfl, hsz, hP, hK, hD0, hE⟩ := hv
  have hx := B.exec
  have hb := B.bytes
  have hr := B.returns
  have hown : s.vm.findClass RX4 = some m.cls := findClass_of_methodNamed B.named
  have hlocks := B.notSynchronized
  have hts : ∀ w ∈ kb_gw, w.before ([.ref (a 0)] : List Value).toArray s = true := fun w hw => hK.2.1 w hw _
  subst hsz
  have hD := hD0.self (sz := s.heap.size)
  generalize hAe : va_A (w_Parser dA a ps) s.heap.size = A at hD hE ⊢
  have hA : ∀ q : Nat, s.heap.size ≤ q → A q := fun q h => by rw [← hAe]; exact Or.inr h
  have hS : va_S A s.heap s.heap [] := va_S.rf
  have hl := lv_entry ([.ref (a 0)]) (n := 1) (Nat.le_of_ble_eq_true rfl)
  rw [lg_entry_eq]
  generalize (lg_sl ([.ref (a 0)]) ++ List.replicate (1 - (lg_sl ([.ref (a 0)])).length) Slot.unset).toArray = ls at hl ⊢
  have hl : lv_has ls 1 [(0, .ref (a 0))] := hl
  generalize hQ : MQ below (va_Qi (fun r (_ : Unit) => r = rv) (kb_B D A (w_Parser dA a ps)) A) ([.ref (a 0)] : List Value).toArray s 0 0 A = Q
  show W p l e ({ frames := 6, cells := 0, slots := 0, locals := 128 } : Room) s m ([.ref (a 0)] : List Value).toArray below meth c s.heap [] 0 0 Q (F0 m 0 ls [])
  have RET : ∀ (r2 : Int32) (H : Heap) (locs : List Loc) (ls : Array Slot) (pc : Nat), some (r2) = some (rv) → va_P D vwCl (w_Parser dA a ps) H → va_D A (w_Parser dA a ps) → va_S A s.heap H locs → kb_01 r2 → decode cX4_isName pc = .ok (.ireturn, 1) → W p l e ({ frames := 6, cells := 0, slots := 0, locals := 128 } : Room) s m ([.ref (a 0)] : List Value).toArray below meth c H locs 0 0 Q (F0 m pc ls [.int r2]) := by
    intro r2 H locs ls pc hq hP hD hS h01 hd
    cases hq
    rw [← hQ]
    exact W.zret (ty := .boolean) hx hb hr (kb_nz h01) (fun t ht hW => ⟨⟨_, (), rfl, rfl, by rw [ht]; exact hP, hD⟩, hS.F ht⟩) hS.2.2 hd
  have B_83 : ∀  (H : Heap) (locs : List Loc) (ls : Array Slot), f_X4_isName_b83 ps  = some (rv) → va_P D vwCl (w_Parser dA a ps) H → va_D A (w_Parser dA a ps) → va_S A s.heap H locs → lv_has ls 1 [] → W p l e ({ frames := 6, cells := 0, slots := 0, locals := 128 } : Room) s m ([.ref (a 0)] : List Value).toArray below meth c H locs 0 0 Q (F0 m 83 ls []) := by
    intro  H locs ls hf hP hD hS hl
    rw [f_X4_isName_b83] at hf
    refine lv_iconst (v := (0 : Int32)) hx hb dX4_isName_83 (by decide) ?_
    exact RET _ H _ ls 84 hf hP hD hS (by decide) dX4_isName_84
  have E0 : ∀ (H : Heap) (locs : List Loc), va_P D vwCl (w_Parser dA a ps) H → va_D A (w_Parser dA a ps) → va_S A s.heap H locs → W p l e ({ frames := 6, cells := 0, slots := 0, locals := 128 } : Room) s m ([.ref (a 0)] : List Value).toArray below meth c H locs 0 0 Q (F0 m 0 ls []) := by
    intro H locs hP hD hS
    rw [f_X4_isName] at hf
    refine lv_aload_n hx hb dX4_isName_0 rfl (lv_at hl 0 rfl) ?_
    refine va_get (D := D) (ci := 4) (v := .int (ps_kind ps)) (C := RX4) (T := TX4) (N := 10) hx hb hts kb_inX4 hown hK.1 hP 0 rfl rfl 6 (by decide) (hK.2.w ww_1_48 rfl _) (fun _ h9 => h9) rfl dX4_isName_1 ?_
    refine lv_iconst (v := (1 : Int32)) hx hb dX4_isName_4 (by decide) ?_
    refine lv_icmp_ne (tgt := 83) hx hb dX4_isName_5 (by decide) (fun c_1 => ?_) (fun c_1 => ?_)
    · rw [if_neg c_1] at hf
      exact B_83 _ _ _ hf hP hD hS (lv_sub hl [] rfl)
    · rw [if_pos c_1] at hf
      refine lv_aload_n hx hb dX4_isName_8 rfl (lv_at hl 0 rfl) ?_
      obtain ⟨r2, hc2, hf⟩ := kb_bind hf
      refine kb_ci (ws2 := (w_Parser dA a ps)) (kb_rV (n := 0) (As := []) (rest := []) hx hb hml hown hK (c_X4_wayHere l D dA H.size a ps r2 hc2) ⟨ww_3_101, ww_3_98, ww_3_100, ws_14, ww_1_2, rfl, by decide, by decide⟩ rfl rfl (by decide +kernel) ⟨Nat.le_of_ble_eq_true rfl, Nat.le_of_ble_eq_true rfl⟩ hP hD hS hA hE [0, 1] rfl (by decide) 0 rfl rfl rfl hl.1 rfl (Nat.le_of_ble_eq_true rfl) dX4_isName_9 ⟨Nat.le_of_ble_eq_true rfl, Nat.le_of_ble_eq_true rfl⟩) hP hD hS hA [0, 1] [] [0, 1] rfl rfl (by decide) (by decide) rfl (by decide) (fun H locs hP hD hS => ?_)
      refine lv_iconst (v := (-1 : Int32)) hx hb dX4_isName_12 (by decide) ?_
      refine lv_icmp_ne (tgt := 83) hx hb dX4_isName_13 (by decide) (fun c_3 => ?_) (fun c_3 => ?_)
      · rw [if_neg c_3] at hf
        exact B_83 _ _ _ hf hP hD hS (lv_sub hl [] rfl)
      · rw [if_pos c_3] at hf
        refine lv_aload_n hx hb dX4_isName_16 rfl (lv_at hl 0 rfl) ?_
        refine va_ldcS (tx := "bus") (q := dA (100 + 0)) hx hb hown (hE.2.2.2 ("BusSeats$Parser", 42, "bus", 0) (by decide)) dX4_isName_17 ?_
        obtain ⟨r4, hc4, hf⟩ := kb_bind hf
        refine kb_ci (ws2 := (w_Parser dA a ps)) (kb_rV (n := 1) (As := [.ref (dA (100 + 0))]) (rest := []) hx hb hml hown hK (c_X4_isWord l D dA H.size a ps 0 (by decide) r4 hc4) ⟨ww_2_233, ww_2_230, ww_2_232, ws_4, ww_1_2, rfl, by decide, by decide⟩ rfl rfl (by decide +kernel) ⟨Nat.le_of_ble_eq_true rfl, Nat.le_of_ble_eq_true rfl⟩ hP hD hS hA hE [0, 1] rfl (by decide) 0 rfl rfl rfl hl.1 rfl (Nat.le_of_ble_eq_true rfl) dX4_isName_19 ⟨Nat.le_of_ble_eq_true rfl, Nat.le_of_ble_eq_true rfl⟩) hP hD hS hA [0, 1] [] [0, 1] rfl rfl (by decide) (by decide) rfl (by decide) (fun H locs hP hD hS => ?_)
        refine lv_if_ne (tgt := 83) hx hb dX4_isName_22 (by decide) (fun c_5 => ?_) (fun c_5 => ?_)
        · rw [if_neg c_5] at hf
          exact B_83 _ _ _ hf hP hD hS (lv_sub hl [] rfl)
        · rw [if_pos c_5] at hf
          refine lv_aload_n hx hb dX4_isName_25 rfl (lv_at hl 0 rfl) ?_
          refine va_ldcS (tx := "rule") (q := dA (100 + 10)) hx hb hown (hE.2.2.2 ("BusSeats$Parser", 52, "rule", 10) (by decide)) dX4_isName_26 ?_
          obtain ⟨r6, hc6, hf⟩ := kb_bind hf
          refine kb_ci (ws2 := (w_Parser dA a ps)) (kb_rV (n := 1) (As := [.ref (dA (100 + 10))]) (rest := []) hx hb hml hown hK (c_X4_isWord l D dA H.size a ps 10 (by decide) r6 hc6) ⟨ww_2_233, ww_2_230, ww_2_232, ws_4, ww_1_2, rfl, by decide, by decide⟩ rfl rfl (by decide +kernel) ⟨Nat.le_of_ble_eq_true rfl, Nat.le_of_ble_eq_true rfl⟩ hP hD hS hA hE [0, 1] rfl (by decide) 0 rfl rfl rfl hl.1 rfl (Nat.le_of_ble_eq_true rfl) dX4_isName_28 ⟨Nat.le_of_ble_eq_true rfl, Nat.le_of_ble_eq_true rfl⟩) hP hD hS hA [0, 1] [] [0, 1] rfl rfl (by decide) (by decide) rfl (by decide) (fun H locs hP hD hS => ?_)
          refine lv_if_ne (tgt := 83) hx hb dX4_isName_31 (by decide) (fun c_7 => ?_) (fun c_7 => ?_)
          · rw [if_neg c_7] at hf
            exact B_83 _ _ _ hf hP hD hS (lv_sub hl [] rfl)
          · rw [if_pos c_7] at hf
            refine lv_aload_n hx hb dX4_isName_34 rfl (lv_at hl 0 rfl) ?_
            refine va_ldcS (tx := "rider") (q := dA (100 + 20)) hx hb hown (hE.2.2.2 ("BusSeats$Parser", 57, "rider", 20) (by decide)) dX4_isName_35 ?_
            obtain ⟨r8, hc8, hf⟩ := kb_bind hf
            refine kb_ci (ws2 := (w_Parser dA a ps)) (kb_rV (n := 1) (As := [.ref (dA (100 + 20))]) (rest := []) hx hb hml hown hK (c_X4_isWord l D dA H.size a ps 20 (by decide) r8 hc8) ⟨ww_2_233, ww_2_230, ww_2_232, ws_4, ww_1_2, rfl, by decide, by decide⟩ rfl rfl (by decide +kernel) ⟨Nat.le_of_ble_eq_true rfl, Nat.le_of_ble_eq_true rfl⟩ hP hD hS hA hE [0, 1] rfl (by decide) 0 rfl rfl rfl hl.1 rfl (Nat.le_of_ble_eq_true rfl) dX4_isName_37 ⟨Nat.le_of_ble_eq_true rfl, Nat.le_of_ble_eq_true rfl⟩) hP hD hS hA [0, 1] [] [0, 1] rfl rfl (by decide) (by decide) rfl (by decide) (fun H locs hP hD hS => ?_)
            refine lv_if_ne (tgt := 83) hx hb dX4_isName_40 (by decide) (fun c_9 => ?_) (fun c_9 => ?_)
            · rw [if_neg c_9] at hf
              exact B_83 _ _ _ hf hP hD hS (lv_sub hl [] rfl)
            · rw [if_pos c_9] at hf
              refine lv_aload_n hx hb dX4_isName_43 rfl (lv_at hl 0 rfl) ?_
              refine va_ldcS (tx := "friends") (q := dA (100 + 21)) hx hb hown (hE.2.2.2 ("BusSeats$Parser", 62, "friends", 21) (by decide)) dX4_isName_44 ?_
              obtain ⟨r10, hc10, hf⟩ := kb_bind hf
              refine kb_ci (ws2 := (w_Parser dA a ps)) (kb_rV (n := 1) (As := [.ref (dA (100 + 21))]) (rest := []) hx hb hml hown hK (c_X4_isWord l D dA H.size a ps 21 (by decide) r10 hc10) ⟨ww_2_233, ww_2_230, ww_2_232, ws_4, ww_1_2, rfl, by decide, by decide⟩ rfl rfl (by decide +kernel) ⟨Nat.le_of_ble_eq_true rfl, Nat.le_of_ble_eq_true rfl⟩ hP hD hS hA hE [0, 1] rfl (by decide) 0 rfl rfl rfl hl.1 rfl (Nat.le_of_ble_eq_true rfl) dX4_isName_46 ⟨Nat.le_of_ble_eq_true rfl, Nat.le_of_ble_eq_true rfl⟩) hP hD hS hA [0, 1] [] [0, 1] rfl rfl (by decide) (by decide) rfl (by decide) (fun H locs hP hD hS => ?_)
              refine lv_if_ne (tgt := 83) hx hb dX4_isName_49 (by decide) (fun c_11 => ?_) (fun c_11 => ?_)
              · rw [if_neg c_11] at hf
                exact B_83 _ _ _ hf hP hD hS (lv_sub hl [] rfl)
              · rw [if_pos c_11] at hf
                refine lv_aload_n hx hb dX4_isName_52 rfl (lv_at hl 0 rfl) ?_
                refine va_ldcS (tx := "holds") (q := dA (100 + 22)) hx hb hown (hE.2.2.2 ("BusSeats$Parser", 67, "holds", 22) (by decide)) dX4_isName_53 ?_
                obtain ⟨r12, hc12, hf⟩ := kb_bind hf
                refine kb_ci (ws2 := (w_Parser dA a ps)) (kb_rV (n := 1) (As := [.ref (dA (100 + 22))]) (rest := []) hx hb hml hown hK (c_X4_isWord l D dA H.size a ps 22 (by decide) r12 hc12) ⟨ww_2_233, ww_2_230, ww_2_232, ws_4, ww_1_2, rfl, by decide, by decide⟩ rfl rfl (by decide +kernel) ⟨Nat.le_of_ble_eq_true rfl, Nat.le_of_ble_eq_true rfl⟩ hP hD hS hA hE [0, 1] rfl (by decide) 0 rfl rfl rfl hl.1 rfl (Nat.le_of_ble_eq_true rfl) dX4_isName_55 ⟨Nat.le_of_ble_eq_true rfl, Nat.le_of_ble_eq_true rfl⟩) hP hD hS hA [0, 1] [] [0, 1] rfl rfl (by decide) (by decide) rfl (by decide) (fun H locs hP hD hS => ?_)
                refine lv_if_ne (tgt := 83) hx hb dX4_isName_58 (by decide) (fun c_13 => ?_) (fun c_13 => ?_)
                · rw [if_neg c_13] at hf
                  exact B_83 _ _ _ hf hP hD hS (lv_sub hl [] rfl)
                · rw [if_pos c_13] at hf
                  refine lv_aload_n hx hb dX4_isName_61 rfl (lv_at hl 0 rfl) ?_
                  refine va_ldcS (tx := "bag") (q := dA (100 + 23)) hx hb hown (hE.2.2.2 ("BusSeats$Parser", 217, "bag", 23) (by decide)) dX4_isName_62 ?_
                  obtain ⟨r14, hc14, hf⟩ := kb_bind hf
                  refine kb_ci (ws2 := (w_Parser dA a ps)) (kb_rV (n := 1) (As := [.ref (dA (100 + 23))]) (rest := []) hx hb hml hown hK (c_X4_isWord l D dA H.size a ps 23 (by decide) r14 hc14) ⟨ww_2_233, ww_2_230, ww_2_232, ws_4, ww_1_2, rfl, by decide, by decide⟩ rfl rfl (by decide +kernel) ⟨Nat.le_of_ble_eq_true rfl, Nat.le_of_ble_eq_true rfl⟩ hP hD hS hA hE [0, 1] rfl (by decide) 0 rfl rfl rfl hl.1 rfl (Nat.le_of_ble_eq_true rfl) dX4_isName_64 ⟨Nat.le_of_ble_eq_true rfl, Nat.le_of_ble_eq_true rfl⟩) hP hD hS hA [0, 1] [] [0, 1] rfl rfl (by decide) (by decide) rfl (by decide) (fun H locs hP hD hS => ?_)
                  refine lv_if_ne (tgt := 83) hx hb dX4_isName_67 (by decide) (fun c_15 => ?_) (fun c_15 => ?_)
                  · rw [if_neg c_15] at hf
                    exact B_83 _ _ _ hf hP hD hS (lv_sub hl [] rfl)
                  · rw [if_pos c_15] at hf
                    refine lv_aload_n hx hb dX4_isName_70 rfl (lv_at hl 0 rfl) ?_
                    refine va_ldcS (tx := "proud") (q := dA (100 + 24)) hx hb hown (hE.2.2.2 ("BusSeats$Parser", 225, "proud", 24) (by decide)) dX4_isName_71 ?_
                    obtain ⟨r16, hc16, hf⟩ := kb_bind hf
                    refine kb_ci (ws2 := (w_Parser dA a ps)) (kb_rV (n := 1) (As := [.ref (dA (100 + 24))]) (rest := []) hx hb hml hown hK (c_X4_isWord l D dA H.size a ps 24 (by decide) r16 hc16) ⟨ww_2_233, ww_2_230, ww_2_232, ws_4, ww_1_2, rfl, by decide, by decide⟩ rfl rfl (by decide +kernel) ⟨Nat.le_of_ble_eq_true rfl, Nat.le_of_ble_eq_true rfl⟩ hP hD hS hA hE [0, 1] rfl (by decide) 0 rfl rfl rfl hl.1 rfl (Nat.le_of_ble_eq_true rfl) dX4_isName_73 ⟨Nat.le_of_ble_eq_true rfl, Nat.le_of_ble_eq_true rfl⟩) hP hD hS hA [0, 1] [] [0, 1] rfl rfl (by decide) (by decide) rfl (by decide) (fun H locs hP hD hS => ?_)
                    refine lv_if_ne (tgt := 83) hx hb dX4_isName_76 (by decide) (fun c_17 => ?_) (fun c_17 => ?_)
                    · rw [if_neg c_17] at hf
                      exact B_83 _ _ _ hf hP hD hS (lv_sub hl [] rfl)
                    · rw [if_pos c_17] at hf
                      refine lv_iconst (v := (1 : Int32)) hx hb dX4_isName_79 (by decide) ?_
                      refine lv_goto (tgt := 84) hx hb dX4_isName_80 (by decide) ?_
                      exact RET _ H _ ls 84 hf hP hD hS (by decide) dX4_isName_84
  exact E0 _ _ hP hD hS

noncomputable def f_X4_skipIfWord (ps : ParserT) (ix0 : Nat) : Option (Int32 × ParserT) := (f_X4_isWord ps ix0).bind fun r1 => (if r1 = 0 then some ((0 : Int32), ps) else (f_X4_advance ps).bind fun r3 => some ((1 : Int32), r3))
set_option maxHeartbeats 4000000 in
set_option maxRecDepth 100000 in
theorem c_X4_skipIfWord (l : Launch) (D : va_G) (dA : Nat → ClassId) (sz : Nat) (a : Nat → Nat) (ps : ParserT) (ix0 : Nat) (hix0 : ix0 < kb_N) (rv : Int32) (u0 : ParserT) (hf : f_X4_skipIfWord ps ix0 = some (rv, u0)) : kb_Mi l yX4_skipIfWord cX4_skipIfWord 2 (some .boolean) ({ frames := 5, cells := 0, slots := 0, locals := 107 } : Room) D dA [.ref (a 0), .ref (dA (100 + ix0))] sz (w_Parser dA a ps) 0 0 rv (w_Parser dA a u0) := by
  refine Met.ofW (cc := cX4_skipIfWord) (maxL := 2) (ret := (some .boolean)) (by decide) rfl ?_
  intro p e s m args below meth c s₁ B hml hv
  obtain ⟨rfl, hsz, hP, hK, hD0, hE⟩ := hv
  have hx := B.exec
  have hb := B.bytes
  have hr := B.returns
  have hown : s.vm.findClass RX4 = some m.cls := findClass_of_methodNamed B.named
  have hlocks := B.notSynchronized
  have hts : ∀ w ∈ kb_gw, w.before ([.ref (a 0), .ref (dA (100 + ix0))] : List Value).toArray s = true := fun w hw => hK.2.1 w hw _
  subst hsz
  have hD := hD0.self (sz := s.heap.size)
  generalize hAe : va_A (w_Parser dA a ps) s.heap.size = A at hD hE ⊢
  have hA : ∀ q : Nat, s.heap.size ≤ q → A q := fun q h => by rw [← hAe]; exact Or.inr h
  have hS : va_S A s.heap s.heap [] := va_S.rf
  have hl := lv_entry ([.ref (a 0), .ref (dA (100 + ix0))]) (n := 2) (Nat.le_of_ble_eq_true rfl)
  rw [lg_entry_eq]
  generalize (lg_sl ([.ref (a 0), .ref (dA (100 + ix0))]) ++ List.replicate (2 - (lg_sl ([.ref (a 0), .ref (dA (100 + ix0))])).length) Slot.unset).toArray = ls at hl ⊢
  have hl : lv_has ls 2 [(0, .ref (a 0)), (1, .ref (dA (100 + ix0)))] := hl
  generalize hQ : MQ below (va_Qi (fun r (_ : Unit) => r = rv) (kb_B D A (w_Parser dA a u0)) A) ([.ref (a 0), .ref (dA (100 + ix0))] : List Value).toArray s 0 0 A = Q
  show W p l e ({ frames := 5, cells := 0, slots := 0, locals := 107 } : Room) s m ([.ref (a 0), .ref (dA (100 + ix0))] : List Value).toArray below meth c s.heap [] 0 0 Q (F0 m 0 ls [])
  have RET : ∀ (r2 : Int32) (w0 : ParserT) (H : Heap) (locs : List Loc) (ls : Array Slot) (pc : Nat), some (r2, w0) = some (rv, u0) → va_P D vwCl (w_Parser dA a w0) H → va_D A (w_Parser dA a w0) → va_S A s.heap H locs → kb_01 r2 → decode cX4_skipIfWord pc = .ok (.ireturn, 1) → W p l e ({ frames := 5, cells := 0, slots := 0, locals := 107 } : Room) s m ([.ref (a 0), .ref (dA (100 + ix0))] : List Value).toArray below meth c H locs 0 0 Q (F0 m pc ls [.int r2]) := by
    intro r2 w0 H locs ls pc hq hP hD hS h01 hd
    cases hq
    rw [← hQ]
    exact W.zret (ty := .boolean) hx hb hr (kb_nz h01) (fun t ht hW => ⟨⟨_, (), rfl, rfl, by rw [ht]; exact hP, hD⟩, hS.F ht⟩) hS.2.2 hd
  have E0 : ∀ (H : Heap) (locs : List Loc), va_P D vwCl (w_Parser dA a ps) H → va_D A (w_Parser dA a ps) → va_S A s.heap H locs → W p l e ({ frames := 5, cells := 0, slots := 0, locals := 107 } : Room) s m ([.ref (a 0), .ref (dA (100 + ix0))] : List Value).toArray below meth c H locs 0 0 Q (F0 m 0 ls []) := by
    intro H locs hP hD hS
    rw [f_X4_skipIfWord] at hf
    refine lv_aload_n hx hb dX4_skipIfWord_0 rfl (lv_at hl 0 rfl) ?_
    refine lv_aload_n hx hb dX4_skipIfWord_1 rfl (lv_at hl 1 rfl) ?_
    obtain ⟨r1, hc1, hf⟩ := kb_bind hf
    refine kb_ci (ws2 := (w_Parser dA a ps)) (kb_rV (n := 1) (As := [.ref (dA (100 + ix0))]) (rest := []) hx hb hml hown hK (c_X4_isWord l D dA H.size a ps ix0 hix0 r1 hc1) ⟨ww_2_233, ww_2_230, ww_2_232, ws_4, ww_1_2, rfl, by decide, by decide⟩ rfl rfl (by decide +kernel) ⟨Nat.le_of_ble_eq_true rfl, Nat.le_of_ble_eq_true rfl⟩ hP hD hS hA hE [0, 1] rfl (by decide) 0 rfl rfl rfl hl.1 rfl (Nat.le_of_ble_eq_true rfl) dX4_skipIfWord_2 ⟨Nat.le_of_ble_eq_true rfl, Nat.le_of_ble_eq_true rfl⟩) hP hD hS hA [0, 1] [] [0, 1] rfl rfl (by decide) (by decide) rfl (by decide) (fun H locs hP hD hS => ?_)
    refine lv_if_ne (tgt := 10) hx hb dX4_skipIfWord_5 (by decide) (fun c_2 => ?_) (fun c_2 => ?_)
    · rw [if_neg c_2] at hf
      refine lv_aload_n hx hb dX4_skipIfWord_10 rfl (lv_at hl 0 rfl) ?_
      obtain ⟨r3, hc3, hf⟩ := kb_bind hf
      refine kb_cv (ws2 := (w_Parser dA a r3)) (kb_rV (n := 0) (As := []) (rest := []) hx hb hml hown hK (c_X4_advance l D dA H.size a ps r3 hc3) ⟨ww_2_219, ww_2_216, ww_2_218, ws_1, ww_1_2, rfl, by decide, by decide⟩ rfl rfl (by decide +kernel) ⟨Nat.le_of_ble_eq_true rfl, Nat.le_of_ble_eq_true rfl⟩ hP hD hS hA hE [0, 1] rfl (by decide) 0 rfl rfl rfl hl.1 rfl (Nat.le_of_ble_eq_true rfl) dX4_skipIfWord_11 ⟨Nat.le_of_ble_eq_true rfl, Nat.le_of_ble_eq_true rfl⟩) hP hD hS hA [0, 1] [] [0, 1] rfl rfl (by decide) (by decide) rfl (by decide) (fun H locs hP hD hS => ?_)
      refine lv_iconst (v := (1 : Int32)) hx hb dX4_skipIfWord_14 (by decide) ?_
      exact RET _ _ H _ ls 15 hf hP hD hS (by decide) dX4_skipIfWord_15
    · rw [if_pos c_2] at hf
      refine lv_iconst (v := (0 : Int32)) hx hb dX4_skipIfWord_8 (by decide) ?_
      exact RET _ _ H _ ls 9 hf hP hD hS (by decide) dX4_skipIfWord_9
  exact E0 _ _ hP hD hS

noncomputable def f_X4_skipWord_b16 (z0 : ParserT) : Option (Int32 × ParserT) := some ((1 : Int32), z0)
noncomputable def f_X4_skipWord (ps : ParserT) (ix0 : Nat) : Option (Int32 × ParserT) := (f_X4_skipIfWord ps ix0).bind fun r1 => (if r1.1 = 0 then (f_X4_failed r1.2 (1 : Int32)).bind fun r3 => (if r3.1 = 0 then some ((0 : Int32), r3.2) else f_X4_skipWord_b16 r3.2) else f_X4_skipWord_b16 r1.2)
set_option maxHeartbeats 4000000 in
set_option maxRecDepth 100000 in
theorem c_X4_skipWord (l : Launch) (D : va_G) (dA : Nat → ClassId) (sz : Nat) (a : Nat → Nat) (ps : ParserT) (ix0 : Nat) (hix0 : ix0 < kb_N) (rv : Int32) (u0 : ParserT) (hf : f_X4_skipWord ps ix0 = some (rv, u0)) : kb_Mi l yX4_skipWord cX4_skipWord 2 (some .boolean) ({ frames := 6, cells := 0, slots := 0, locals := 128 } : Room) D dA [.ref (a 0), .ref (dA (100 + ix0))] sz (w_Parser dA a ps) 0 0 rv (w_Parser dA a u0) := by
  refine Met.ofW (cc := cX4_skipWord) (maxL := 2) (ret := (some .boolean)) (by decide) rfl ?_
  intro p e s m args below meth c s₁ B hml hv
  obtain ⟨rfl, hsz, hP, hK, hD0, hE⟩ := hv
  have hx := B.exec
  have hb := B.bytes
  have hr := B.returns
  have hown : s.vm.findClass RX4 = some m.cls := findClass_of_methodNamed B.named
  have hlocks := B.notSynchronized
  have hts : ∀ w ∈ kb_gw, w.before ([.ref (a 0), .ref (dA (100 + ix0))] : List Value).toArray s = true := fun w hw => hK.2.1 w hw _
  subst hsz
  have hD := hD0.self (sz := s.heap.size)
  generalize hAe : va_A (w_Parser dA a ps) s.heap.size = A at hD hE ⊢
  have hA : ∀ q : Nat, s.heap.size ≤ q → A q := fun q h => by rw [← hAe]; exact Or.inr h
  have hS : va_S A s.heap s.heap [] := va_S.rf
  have hl := lv_entry ([.ref (a 0), .ref (dA (100 + ix0))]) (n := 2) (Nat.le_of_ble_eq_true rfl)
  rw [lg_entry_eq]
  generalize (lg_sl ([.ref (a 0), .ref (dA (100 + ix0))]) ++ List.replicate (2 - (lg_sl ([.ref (a 0), .ref (dA (100 + ix0))])).length) Slot.unset).toArray = ls at hl ⊢
  have hl : lv_has ls 2 [(0, .ref (a 0)), (1, .ref (dA (100 + ix0)))] := hl
  generalize hQ : MQ below (va_Qi (fun r (_ : Unit) => r = rv) (kb_B D A (w_Parser dA a u0)) A) ([.ref (a 0), .ref (dA (100 + ix0))] : List Value).toArray s 0 0 A = Q
  show W p l e ({ frames := 6, cells := 0, slots := 0, locals := 128 } : Room) s m ([.ref (a 0), .ref (dA (100 + ix0))] : List Value).toArray below meth c s.heap [] 0 0 Q (F0 m 0 ls [])
  have RET : ∀ (r2 : Int32) (w0 : ParserT) (H : Heap) (locs : List Loc) (ls : Array Slot) (pc : Nat), some (r2, w0) = some (rv, u0) → va_P D vwCl (w_Parser dA a w0) H → va_D A (w_Parser dA a w0) → va_S A s.heap H locs → kb_01 r2 → decode cX4_skipWord pc = .ok (.ireturn, 1) → W p l e ({ frames := 6, cells := 0, slots := 0, locals := 128 } : Room) s m ([.ref (a 0), .ref (dA (100 + ix0))] : List Value).toArray below meth c H locs 0 0 Q (F0 m pc ls [.int r2]) := by
    intro r2 w0 H locs ls pc hq hP hD hS h01 hd
    cases hq
    rw [← hQ]
    exact W.zret (ty := .boolean) hx hb hr (kb_nz h01) (fun t ht hW => ⟨⟨_, (), rfl, rfl, by rw [ht]; exact hP, hD⟩, hS.F ht⟩) hS.2.2 hd
  have B_16 : ∀ (z0 : ParserT) (H : Heap) (locs : List Loc) (ls : Array Slot), f_X4_skipWord_b16 z0 = some (rv, u0) → va_P D vwCl (w_Parser dA a z0) H → va_D A (w_Parser dA a z0) → va_S A s.heap H locs → lv_has ls 2 [] → W p l e ({ frames := 6, cells := 0, slots := 0, locals := 128 } : Room) s m ([.ref (a 0), .ref (dA (100 + ix0))] : List Value).toArray below meth c H locs 0 0 Q (F0 m 16 ls []) := by
    intro z0 H locs ls hf hP hD hS hl
    rw [f_X4_skipWord_b16] at hf
    refine lv_iconst (v := (1 : Int32)) hx hb dX4_skipWord_16 (by decide) ?_
    refine lv_goto (tgt := 21) hx hb dX4_skipWord_17 (by decide) ?_
    exact RET _ _ H _ ls 21 hf hP hD hS (by decide) dX4_skipWord_21
  have E0 : ∀ (H : Heap) (locs : List Loc), va_P D vwCl (w_Parser dA a ps) H → va_D A (w_Parser dA a ps) → va_S A s.heap H locs → W p l e ({ frames := 6, cells := 0, slots := 0, locals := 128 } : Room) s m ([.ref (a 0), .ref (dA (100 + ix0))] : List Value).toArray below meth c H locs 0 0 Q (F0 m 0 ls []) := by
    intro H locs hP hD hS
    rw [f_X4_skipWord] at hf
    refine lv_aload_n hx hb dX4_skipWord_0 rfl (lv_at hl 0 rfl) ?_
    refine lv_aload_n hx hb dX4_skipWord_1 rfl (lv_at hl 1 rfl) ?_
    obtain ⟨r1, hc1, hf⟩ := kb_bind hf
    refine kb_ci (ws2 := (w_Parser dA a r1.2)) (kb_rV (n := 1) (As := [.ref (dA (100 + ix0))]) (rest := []) hx hb hml hown hK (c_X4_skipIfWord l D dA H.size a ps ix0 hix0 r1.1 r1.2 hc1) ⟨ww_3_67, ww_3_64, ww_3_66, ws_9, ww_1_2, rfl, by decide, by decide⟩ rfl rfl (by decide +kernel) ⟨Nat.le_of_ble_eq_true rfl, Nat.le_of_ble_eq_true rfl⟩ hP hD hS hA hE [0, 1] rfl (by decide) 0 rfl rfl rfl hl.1 rfl (Nat.le_of_ble_eq_true rfl) dX4_skipWord_2 ⟨Nat.le_of_ble_eq_true rfl, Nat.le_of_ble_eq_true rfl⟩) hP hD hS hA [0, 1] [] [0, 1] rfl rfl (by decide) (by decide) rfl (by decide) (fun H locs hP hD hS => ?_)
    refine lv_if_ne (tgt := 16) hx hb dX4_skipWord_5 (by decide) (fun c_2 => ?_) (fun c_2 => ?_)
    · rw [if_neg c_2] at hf
      exact B_16 _ _ _ _ hf hP hD hS (lv_sub hl [] rfl)
    · rw [if_pos c_2] at hf
      refine lv_aload_n hx hb dX4_skipWord_8 rfl (lv_at hl 0 rfl) ?_
      refine lv_iconst (v := (1 : Int32)) hx hb dX4_skipWord_9 (by decide) ?_
      obtain ⟨r3, hc3, hf⟩ := kb_bind hf
      refine kb_ci (ws2 := (w_Parser dA a r3.2)) (kb_rV (n := 1) (As := [.int (1 : Int32)]) (rest := []) hx hb hml hown hK (c_X4_failed l D dA H.size a r1.2 (1 : Int32) r3.1 r3.2 hc3) ⟨ww_3_49, ww_3_46, ww_3_48, ws_6, ww_1_2, rfl, by decide, by decide⟩ rfl rfl (by decide +kernel) ⟨Nat.le_of_ble_eq_true rfl, Nat.le_of_ble_eq_true rfl⟩ hP hD hS hA hE [0, 1] rfl (by decide) 0 rfl rfl rfl hl.1 rfl (Nat.le_of_ble_eq_true rfl) dX4_skipWord_10 ⟨Nat.le_of_ble_eq_true rfl, Nat.le_of_ble_eq_true rfl⟩) hP hD hS hA [0, 1] [] [0, 1] rfl rfl (by decide) (by decide) rfl (by decide) (fun H locs hP hD hS => ?_)
      refine lv_if_eq (tgt := 20) hx hb dX4_skipWord_13 (by decide) (fun c_4 => ?_) (fun c_4 => ?_)
      · rw [if_pos c_4] at hf
        refine lv_iconst (v := (0 : Int32)) hx hb dX4_skipWord_20 (by decide) ?_
        exact RET _ _ H _ ls 21 hf hP hD hS (by decide) dX4_skipWord_21
      · rw [if_neg c_4] at hf
        exact B_16 _ _ _ _ hf hP hD hS (lv_sub hl [] rfl)
  exact E0 _ _ hP hD hS

noncomputable def f_X4_numberBehind_b52 (z0 : ParserT) : Option (Int32 × ParserT) := (f_X4_failed z0 (4 : Int32)).bind fun r6 => some ((-1 : Int32), r6.2)
noncomputable def f_X4_numberBehind (ps : ParserT) (ix0 : Nat) (x1 : Int32) (x2 : Int32) : Option (Int32 × ParserT) := (f_X4_isWord ps ix0).bind fun r1 => (if r1 = 0 then (f_X4_failed ps (1 : Int32)).bind fun r10 => some ((-1 : Int32), r10.2) else (f_X4_advance ps).bind fun r3 => (if (ps_kind r3) = (2 : Int32) then (if (ps_value r3) < x1 then f_X4_numberBehind_b52 r3 else (if (ps_value r3) ≤ x2 then (f_X4_advance r3).bind fun r8 => some ((ps_value r3), r8) else f_X4_numberBehind_b52 r3)) else (f_X4_failed r3 (1 : Int32)).bind fun r9 => some ((-1 : Int32), r9.2)))
set_option maxHeartbeats 4000000 in
set_option maxRecDepth 100000 in
theorem c_X4_numberBehind (l : Launch) (D : va_G) (dA : Nat → ClassId) (sz : Nat) (a : Nat → Nat) (ps : ParserT) (ix0 : Nat) (hix0 : ix0 < kb_N) (x1 : Int32) (x2 : Int32) (rv : Int32) (u0 : ParserT) (hf : f_X4_numberBehind ps ix0 x1 x2 = some (rv, u0)) : kb_Mi l yX4_numberBehind cX4_numberBehind 5 (some .int) ({ frames := 5, cells := 0, slots := 0, locals := 107 } : Room) D dA [.ref (a 0), .ref (dA (100 + ix0)), .int x1, .int x2] sz (w_Parser dA a ps) 0 0 rv (w_Parser dA a u0) := by
  refine Met.ofW (cc := cX4_numberBehind) (maxL := 5) (ret := (some .int)) (by decide) rfl ?_
  intro p e s m args below meth c s₁ B hml hv
  obtain ⟨rfl, hsz, hP, hK, hD0, hE⟩ := hv
  have hx := B.exec
  have hb := B.bytes
  have hr := B.returns
  have hown : s.vm.findClass RX4 = some m.cls := findClass_of_methodNamed B.named
  have hlocks := B.notSynchronized
  have hts : ∀ w ∈ kb_gw, w.before ([.ref (a 0), .ref (dA (100 + ix0)), .int x1, .int x2] : List Value).toArray s = true := fun w hw => hK.2.1 w hw _
  subst hsz
  have hD := hD0.self (sz := s.heap.size)
  generalize hAe : va_A (w_Parser dA a ps) s.heap.size = A at hD hE ⊢
  have hA : ∀ q : Nat, s.heap.size ≤ q → A q := fun q h => by rw [← hAe]; exact Or.inr h
  have hS : va_S A s.heap s.heap [] := va_S.rf
  have hl := lv_entry ([.ref (a 0), .ref (dA (100 + ix0)), .int x1, .int x2]) (n := 5) (Nat.le_of_ble_eq_true rfl)
  rw [lg_entry_eq]
  generalize (lg_sl ([.ref (a 0), .ref (dA (100 + ix0)), .int x1, .int x2]) ++ List.replicate (5 - (lg_sl ([.ref (a 0), .ref (dA (100 + ix0)), .int x1, .int x2])).length) Slot.unset).toArray = ls at hl ⊢
  have hl : lv_has ls 5 [(0, .ref (a 0)), (1, .ref (dA (100 + ix0))), (2, .int x1), (3, .int x2)] := hl
  generalize hQ : MQ below (va_Qi (fun r (_ : Unit) => r = rv) (kb_B D A (w_Parser dA a u0)) A) ([.ref (a 0), .ref (dA (100 + ix0)), .int x1, .int x2] : List Value).toArray s 0 0 A = Q
  show W p l e ({ frames := 5, cells := 0, slots := 0, locals := 107 } : Room) s m ([.ref (a 0), .ref (dA (100 + ix0)), .int x1, .int x2] : List Value).toArray below meth c s.heap [] 0 0 Q (F0 m 0 ls [])
  have RET : ∀ (r2 : Int32) (w0 : ParserT) (H : Heap) (locs : List Loc) (ls : Array Slot) (pc : Nat), some (r2, w0) = some (rv, u0) → va_P D vwCl (w_Parser dA a w0) H → va_D A (w_Parser dA a w0) → va_S A s.heap H locs → decode cX4_numberBehind pc = .ok (.ireturn, 1) → W p l e ({ frames := 5, cells := 0, slots := 0, locals := 107 } : Room) s m ([.ref (a 0), .ref (dA (100 + ix0)), .int x1, .int x2] : List Value).toArray below meth c H locs 0 0 Q (F0 m pc ls [.int r2]) := by
    intro r2 w0 H locs ls pc hq hP hD hS hd
    cases hq
    rw [← hQ]
    exact W.iret hx hb hr (fun t ht hW => ⟨⟨_, (), rfl, rfl, by rw [ht]; exact hP, hD⟩, hS.F ht⟩) hS.2.2 hd
  have B_52 : ∀ (z0 : ParserT) (H : Heap) (locs : List Loc) (ls : Array Slot), f_X4_numberBehind_b52 z0 = some (rv, u0) → va_P D vwCl (w_Parser dA a z0) H → va_D A (w_Parser dA a z0) → va_S A s.heap H locs → lv_has ls 5 [(0, .ref (a 0))] → W p l e ({ frames := 5, cells := 0, slots := 0, locals := 107 } : Room) s m ([.ref (a 0), .ref (dA (100 + ix0)), .int x1, .int x2] : List Value).toArray below meth c H locs 0 0 Q (F0 m 52 ls []) := by
    intro z0 H locs ls hf hP hD hS hl
    rw [f_X4_numberBehind_b52] at hf
    refine lv_aload_n hx hb dX4_numberBehind_52 rfl (lv_at hl 0 rfl) ?_
    refine lv_iconst (v := (4 : Int32)) hx hb dX4_numberBehind_53 (by decide) ?_
    obtain ⟨r6, hc6, hf⟩ := kb_bind hf
    refine kb_ci (ws2 := (w_Parser dA a r6.2)) (kb_rV (n := 1) (As := [.int (4 : Int32)]) (rest := []) hx hb hml hown hK (c_X4_failed l D dA H.size a z0 (4 : Int32) r6.1 r6.2 hc6) ⟨ww_3_49, ww_3_46, ww_3_48, ws_6, ww_1_2, rfl, by decide, by decide⟩ rfl rfl (by decide +kernel) ⟨Nat.le_of_ble_eq_true rfl, Nat.le_of_ble_eq_true rfl⟩ hP hD hS hA hE [0, 1] rfl (by decide) 0 rfl rfl rfl hl.1 rfl (Nat.le_of_ble_eq_true rfl) dX4_numberBehind_54 ⟨Nat.le_of_ble_eq_true rfl, Nat.le_of_ble_eq_true rfl⟩) hP hD hS hA [0, 1] [] [0, 1] rfl rfl (by decide) (by decide) rfl (by decide) (fun H locs hP hD hS => ?_)
    refine lv_pop hx hb dX4_numberBehind_57 rfl ?_
    refine lv_iconst (v := (-1 : Int32)) hx hb dX4_numberBehind_58 (by decide) ?_
    exact RET _ _ H _ ls 59 hf hP hD hS dX4_numberBehind_59
  have E0 : ∀ (H : Heap) (locs : List Loc), va_P D vwCl (w_Parser dA a ps) H → va_D A (w_Parser dA a ps) → va_S A s.heap H locs → W p l e ({ frames := 5, cells := 0, slots := 0, locals := 107 } : Room) s m ([.ref (a 0), .ref (dA (100 + ix0)), .int x1, .int x2] : List Value).toArray below meth c H locs 0 0 Q (F0 m 0 ls []) := by
    intro H locs hP hD hS
    rw [f_X4_numberBehind] at hf
    refine lv_aload_n hx hb dX4_numberBehind_0 rfl (lv_at hl 0 rfl) ?_
    refine lv_aload_n hx hb dX4_numberBehind_1 rfl (lv_at hl 1 rfl) ?_
    obtain ⟨r1, hc1, hf⟩ := kb_bind hf
    refine kb_ci (ws2 := (w_Parser dA a ps)) (kb_rV (n := 1) (As := [.ref (dA (100 + ix0))]) (rest := []) hx hb hml hown hK (c_X4_isWord l D dA H.size a ps ix0 hix0 r1 hc1) ⟨ww_2_233, ww_2_230, ww_2_232, ws_4, ww_1_2, rfl, by decide, by decide⟩ rfl rfl (by decide +kernel) ⟨Nat.le_of_ble_eq_true rfl, Nat.le_of_ble_eq_true rfl⟩ hP hD hS hA hE [0, 1] rfl (by decide) 0 rfl rfl rfl hl.1 rfl (Nat.le_of_ble_eq_true rfl) dX4_numberBehind_2 ⟨Nat.le_of_ble_eq_true rfl, Nat.le_of_ble_eq_true rfl⟩) hP hD hS hA [0, 1] [] [0, 1] rfl rfl (by decide) (by decide) rfl (by decide) (fun H locs hP hD hS => ?_)
    refine lv_if_ne (tgt := 16) hx hb dX4_numberBehind_5 (by decide) (fun c_2 => ?_) (fun c_2 => ?_)
    · rw [if_neg c_2] at hf
      refine lv_aload_n hx hb dX4_numberBehind_16 rfl (lv_at hl 0 rfl) ?_
      obtain ⟨r3, hc3, hf⟩ := kb_bind hf
      refine kb_cv (ws2 := (w_Parser dA a r3)) (kb_rV (n := 0) (As := []) (rest := []) hx hb hml hown hK (c_X4_advance l D dA H.size a ps r3 hc3) ⟨ww_2_219, ww_2_216, ww_2_218, ws_1, ww_1_2, rfl, by decide, by decide⟩ rfl rfl (by decide +kernel) ⟨Nat.le_of_ble_eq_true rfl, Nat.le_of_ble_eq_true rfl⟩ hP hD hS hA hE [0, 1] rfl (by decide) 0 rfl rfl rfl hl.1 rfl (Nat.le_of_ble_eq_true rfl) dX4_numberBehind_17 ⟨Nat.le_of_ble_eq_true rfl, Nat.le_of_ble_eq_true rfl⟩) hP hD hS hA [0, 1] [] [0, 1] rfl rfl (by decide) (by decide) rfl (by decide) (fun H locs hP hD hS => ?_)
      refine lv_aload_n hx hb dX4_numberBehind_20 rfl (lv_at hl 0 rfl) ?_
      refine va_get (D := D) (ci := 4) (v := .int (ps_kind r3)) (C := RX4) (T := TX4) (N := 10) hx hb hts kb_inX4 hown hK.1 hP 0 rfl rfl 6 (by decide) (hK.2.w ww_1_48 rfl _) (fun _ h9 => h9) rfl dX4_numberBehind_21 ?_
      refine lv_iconst (v := (2 : Int32)) hx hb dX4_numberBehind_24 (by decide) ?_
      refine lv_icmp_eq (tgt := 36) hx hb dX4_numberBehind_25 (by decide) (fun c_4 => ?_) (fun c_4 => ?_)
      · rw [if_pos c_4] at hf
        refine lv_aload_n hx hb dX4_numberBehind_36 rfl (lv_at hl 0 rfl) ?_
        refine va_get (D := D) (ci := 4) (v := .int (ps_value r3)) (C := RX4) (T := TX4) (N := 10) hx hb hts kb_inX4 hown hK.1 hP 0 rfl rfl 8 (by decide) (hK.2.w ww_1_50 rfl _) (fun _ h9 => h9) rfl dX4_numberBehind_37 ?_
        refine lv_iload_n hx hb dX4_numberBehind_40 rfl (lv_at hl 2 rfl) ?_
        refine lv_icmp_lt (tgt := 52) hx hb dX4_numberBehind_41 (by decide) (fun c_5 => ?_) (fun c_5 => ?_)
        · rw [if_pos c_5] at hf
          exact B_52 _ _ _ _ hf hP hD hS (lv_sub hl [0] rfl)
        · rw [if_neg c_5] at hf
          refine lv_aload_n hx hb dX4_numberBehind_44 rfl (lv_at hl 0 rfl) ?_
          refine va_get (D := D) (ci := 4) (v := .int (ps_value r3)) (C := RX4) (T := TX4) (N := 10) hx hb hts kb_inX4 hown hK.1 hP 0 rfl rfl 8 (by decide) (hK.2.w ww_1_50 rfl _) (fun _ h9 => h9) rfl dX4_numberBehind_45 ?_
          refine lv_iload_n hx hb dX4_numberBehind_48 rfl (lv_at hl 3 rfl) ?_
          refine lv_icmp_le (tgt := 60) hx hb dX4_numberBehind_49 (by decide) (fun c_7 => ?_) (fun c_7 => ?_)
          · rw [if_pos c_7] at hf
            refine lv_aload_n hx hb dX4_numberBehind_60 rfl (lv_at hl 0 rfl) ?_
            refine va_get (D := D) (ci := 4) (v := .int (ps_value r3)) (C := RX4) (T := TX4) (N := 10) hx hb hts kb_inX4 hown hK.1 hP 0 rfl rfl 8 (by decide) (hK.2.w ww_1_50 rfl _) (fun _ h9 => h9) rfl dX4_numberBehind_61 ?_
            refine lv_istore (lv' := [(4, .int (ps_value r3)), (0, .ref (a 0)), (1, .ref (dA (100 + ix0))), (2, .int x1), (3, .int x2)]) hx hb dX4_numberBehind_64 hl (by decide) rfl (fun ls hl => ?_)
            refine lv_aload_n hx hb dX4_numberBehind_66 rfl (lv_at hl 1 rfl) ?_
            obtain ⟨r8, hc8, hf⟩ := kb_bind hf
            refine kb_cv (ws2 := (w_Parser dA a r8)) (kb_rV (n := 0) (As := []) (rest := []) hx hb hml hown hK (c_X4_advance l D dA H.size a r3 r8 hc8) ⟨ww_2_219, ww_2_216, ww_2_218, ws_1, ww_1_2, rfl, by decide, by decide⟩ rfl rfl (by decide +kernel) ⟨Nat.le_of_ble_eq_true rfl, Nat.le_of_ble_eq_true rfl⟩ hP hD hS hA hE [0, 1] rfl (by decide) 0 rfl rfl rfl hl.1 rfl (Nat.le_of_ble_eq_true rfl) dX4_numberBehind_67 ⟨Nat.le_of_ble_eq_true rfl, Nat.le_of_ble_eq_true rfl⟩) hP hD hS hA [0, 1] [] [0, 1] rfl rfl (by decide) (by decide) rfl (by decide) (fun H locs hP hD hS => ?_)
            refine lv_iload hx hb dX4_numberBehind_70 (lv_at hl 0 rfl) ?_
            exact RET _ _ H _ ls 72 hf hP hD hS dX4_numberBehind_72
          · rw [if_neg c_7] at hf
            exact B_52 _ _ _ _ hf hP hD hS (lv_sub hl [0] rfl)
      · rw [if_neg c_4] at hf
        refine lv_aload_n hx hb dX4_numberBehind_28 rfl (lv_at hl 0 rfl) ?_
        refine lv_iconst (v := (1 : Int32)) hx hb dX4_numberBehind_29 (by decide) ?_
        obtain ⟨r9, hc9, hf⟩ := kb_bind hf
        refine kb_ci (ws2 := (w_Parser dA a r9.2)) (kb_rV (n := 1) (As := [.int (1 : Int32)]) (rest := []) hx hb hml hown hK (c_X4_failed l D dA H.size a r3 (1 : Int32) r9.1 r9.2 hc9) ⟨ww_3_49, ww_3_46, ww_3_48, ws_6, ww_1_2, rfl, by decide, by decide⟩ rfl rfl (by decide +kernel) ⟨Nat.le_of_ble_eq_true rfl, Nat.le_of_ble_eq_true rfl⟩ hP hD hS hA hE [0, 1] rfl (by decide) 0 rfl rfl rfl hl.1 rfl (Nat.le_of_ble_eq_true rfl) dX4_numberBehind_30 ⟨Nat.le_of_ble_eq_true rfl, Nat.le_of_ble_eq_true rfl⟩) hP hD hS hA [0, 1] [] [0, 1] rfl rfl (by decide) (by decide) rfl (by decide) (fun H locs hP hD hS => ?_)
        refine lv_pop hx hb dX4_numberBehind_33 rfl ?_
        refine lv_iconst (v := (-1 : Int32)) hx hb dX4_numberBehind_34 (by decide) ?_
        exact RET _ _ H _ ls 35 hf hP hD hS dX4_numberBehind_35
    · rw [if_pos c_2] at hf
      refine lv_aload_n hx hb dX4_numberBehind_8 rfl (lv_at hl 0 rfl) ?_
      refine lv_iconst (v := (1 : Int32)) hx hb dX4_numberBehind_9 (by decide) ?_
      obtain ⟨r10, hc10, hf⟩ := kb_bind hf
      refine kb_ci (ws2 := (w_Parser dA a r10.2)) (kb_rV (n := 1) (As := [.int (1 : Int32)]) (rest := []) hx hb hml hown hK (c_X4_failed l D dA H.size a ps (1 : Int32) r10.1 r10.2 hc10) ⟨ww_3_49, ww_3_46, ww_3_48, ws_6, ww_1_2, rfl, by decide, by decide⟩ rfl rfl (by decide +kernel) ⟨Nat.le_of_ble_eq_true rfl, Nat.le_of_ble_eq_true rfl⟩ hP hD hS hA hE [0, 1] rfl (by decide) 0 rfl rfl rfl hl.1 rfl (Nat.le_of_ble_eq_true rfl) dX4_numberBehind_10 ⟨Nat.le_of_ble_eq_true rfl, Nat.le_of_ble_eq_true rfl⟩) hP hD hS hA [0, 1] [] [0, 1] rfl rfl (by decide) (by decide) rfl (by decide) (fun H locs hP hD hS => ?_)
      refine lv_pop hx hb dX4_numberBehind_13 rfl ?_
      refine lv_iconst (v := (-1 : Int32)) hx hb dX4_numberBehind_14 (by decide) ?_
      exact RET _ _ H _ ls 15 hf hP hD hS dX4_numberBehind_15
  exact E0 _ _ hP hD hS

noncomputable def f_X4_readSide_b57 (z0 : ParserT) (z1 : CabT) : Option (Int32 × ParserT × CabT) := (f_X4_advance z0).bind fun r9 => some ((1 : Int32), r9, z1)
noncomputable def f_X4_readSide (ps : ParserT) (cb : CabT) : Option (Int32 × ParserT × CabT) := (f_X4_isWord ps 7).bind fun r1 => (if r1 = 0 then (f_X4_isWord ps 8).bind fun r3 => (if r3 = 0 then (f_X4_isWord ps 9).bind fun r5 => (if r5 = 0 then (f_X4_failed ps (1 : Int32)).bind fun r7 => if kb_01 r7.1 then some (r7.1, r7.2, cb) else none else f_X4_readSide_b57 ps (cb_set_sun cb (2 : Int32))) else f_X4_readSide_b57 ps (cb_set_sun cb (1 : Int32))) else f_X4_readSide_b57 ps (cb_set_sun cb (0 : Int32)))
set_option maxHeartbeats 4000000 in
set_option maxRecDepth 100000 in
theorem c_X4_readSide (l : Launch) (D : va_G) (dA : Nat → ClassId) (sz : Nat) (a : Nat → Nat) (ca : Nat → Nat) (ps : ParserT) (cb : CabT) (rv : Int32) (u0 : ParserT) (u1 : CabT) (hf : f_X4_readSide ps cb = some (rv, u0, u1)) : kb_Mi l yX4_readSide cX4_readSide 2 (some .boolean) ({ frames := 5, cells := 0, slots := 0, locals := 107 } : Room) D dA [.ref (a 0), .ref (ca 0)] sz (w_Parser dA a ps ++ (w_Cab dA ca cb)) 0 0 rv (w_Parser dA a u0 ++ (w_Cab dA ca u1)) := by
  refine Met.ofW (cc := cX4_readSide) (maxL := 2) (ret := (some .boolean)) (by decide) rfl ?_
  intro p e s m args below meth c s₁ B hml hv
  obtain ⟨rfl, hsz, hP, hK, hD0, hE⟩ := hv
  have hx := B.exec
  have hb := B.bytes
  have hr := B.returns
  have hown : s.vm.findClass RX4 = some m.cls := findClass_of_methodNamed B.named
  have hlocks := B.notSynchronized
  have hts : ∀ w ∈ kb_gw, w.before ([.ref (a 0), .ref (ca 0)] : List Value).toArray s = true := fun w hw => hK.2.1 w hw _
  subst hsz
  have hD := hD0.self (sz := s.heap.size)
  generalize hAe : va_A (w_Parser dA a ps ++ (w_Cab dA ca cb)) s.heap.size = A at hD hE ⊢
  have hA : ∀ q : Nat, s.heap.size ≤ q → A q := fun q h => by rw [← hAe]; exact Or.inr h
  have hS : va_S A s.heap s.heap [] := va_S.rf
  have hl := lv_entry ([.ref (a 0), .ref (ca 0)]) (n := 2) (Nat.le_of_ble_eq_true rfl)
  rw [lg_entry_eq]
  generalize (lg_sl ([.ref (a 0), .ref (ca 0)]) ++ List.replicate (2 - (lg_sl ([.ref (a 0), .ref (ca 0)])).length) Slot.unset).toArray = ls at hl ⊢
  have hl : lv_has ls 2 [(0, .ref (a 0)), (1, .ref (ca 0))] := hl
  generalize hQ : MQ below (va_Qi (fun r (_ : Unit) => r = rv) (kb_B D A (w_Parser dA a u0 ++ (w_Cab dA ca u1))) A) ([.ref (a 0), .ref (ca 0)] : List Value).toArray s 0 0 A = Q
  show W p l e ({ frames := 5, cells := 0, slots := 0, locals := 107 } : Room) s m ([.ref (a 0), .ref (ca 0)] : List Value).toArray below meth c s.heap [] 0 0 Q (F0 m 0 ls [])
  have RET : ∀ (r2 : Int32) (w0 : ParserT) (w1 : CabT) (H : Heap) (locs : List Loc) (ls : Array Slot) (pc : Nat), some (r2, w0, w1) = some (rv, u0, u1) → va_P D vwCl (w_Parser dA a w0 ++ (w_Cab dA ca w1)) H → va_D A (w_Parser dA a w0 ++ (w_Cab dA ca w1)) → va_S A s.heap H locs → kb_01 r2 → decode cX4_readSide pc = .ok (.ireturn, 1) → W p l e ({ frames := 5, cells := 0, slots := 0, locals := 107 } : Room) s m ([.ref (a 0), .ref (ca 0)] : List Value).toArray below meth c H locs 0 0 Q (F0 m pc ls [.int r2]) := by
    intro r2 w0 w1 H locs ls pc hq hP hD hS h01 hd
    cases hq
    rw [← hQ]
    exact W.zret (ty := .boolean) hx hb hr (kb_nz h01) (fun t ht hW => ⟨⟨_, (), rfl, rfl, by rw [ht]; exact hP, hD⟩, hS.F ht⟩) hS.2.2 hd
  have B_57 : ∀ (z0 : ParserT) (z1 : CabT) (H : Heap) (locs : List Loc) (ls : Array Slot), f_X4_readSide_b57 z0 z1 = some (rv, u0, u1) → va_P D vwCl (w_Parser dA a z0 ++ (w_Cab dA ca z1)) H → va_D A (w_Parser dA a z0 ++ (w_Cab dA ca z1)) → va_S A s.heap H locs → lv_has ls 2 [(0, .ref (a 0))] → W p l e ({ frames := 5, cells := 0, slots := 0, locals := 107 } : Room) s m ([.ref (a 0), .ref (ca 0)] : List Value).toArray below meth c H locs 0 0 Q (F0 m 57 ls []) := by
    intro z0 z1 H locs ls hf hP hD hS hl
    rw [f_X4_readSide_b57] at hf
    refine lv_aload_n hx hb dX4_readSide_57 rfl (lv_at hl 0 rfl) ?_
    obtain ⟨r9, hc9, hf⟩ := kb_bind hf
    refine kb_cv (ws2 := (w_Parser dA a r9 ++ (w_Cab dA ca z1))) (kb_rV (n := 0) (As := []) (rest := []) hx hb hml hown hK (c_X4_advance l D dA H.size a z0 r9 hc9) ⟨ww_2_219, ww_2_216, ww_2_218, ws_1, ww_1_2, rfl, by decide, by decide⟩ rfl rfl (by decide +kernel) ⟨Nat.le_of_ble_eq_true rfl, Nat.le_of_ble_eq_true rfl⟩ hP hD hS hA hE [0, 1] rfl (by decide) 0 rfl rfl rfl hl.1 rfl (Nat.le_of_ble_eq_true rfl) dX4_readSide_58 ⟨Nat.le_of_ble_eq_true rfl, Nat.le_of_ble_eq_true rfl⟩) hP hD hS hA [0, 1] [2, 3] [2, 3, 0, 1] rfl rfl (by decide) (by decide) rfl (by decide) (fun H locs hP hD hS => ?_)
    refine lv_iconst (v := (1 : Int32)) hx hb dX4_readSide_61 (by decide) ?_
    exact RET _ _ _ H _ ls 62 hf hP hD hS (by decide) dX4_readSide_62
  have E0 : ∀ (H : Heap) (locs : List Loc), va_P D vwCl (w_Parser dA a ps ++ (w_Cab dA ca cb)) H → va_D A (w_Parser dA a ps ++ (w_Cab dA ca cb)) → va_S A s.heap H locs → W p l e ({ frames := 5, cells := 0, slots := 0, locals := 107 } : Room) s m ([.ref (a 0), .ref (ca 0)] : List Value).toArray below meth c H locs 0 0 Q (F0 m 0 ls []) := by
    intro H locs hP hD hS
    rw [f_X4_readSide] at hf
    refine lv_aload_n hx hb dX4_readSide_0 rfl (lv_at hl 0 rfl) ?_
    refine va_ldcS (tx := "left") (q := dA (100 + 7)) hx hb hown (hE.2.2.2 ("BusSeats$Parser", 135, "left", 7) (by decide)) dX4_readSide_1 ?_
    obtain ⟨r1, hc1, hf⟩ := kb_bind hf
    refine kb_ci (ws2 := (w_Parser dA a ps ++ (w_Cab dA ca cb))) (kb_rV (n := 1) (As := [.ref (dA (100 + 7))]) (rest := []) hx hb hml hown hK (c_X4_isWord l D dA H.size a ps 7 (by decide) r1 hc1) ⟨ww_2_233, ww_2_230, ww_2_232, ws_4, ww_1_2, rfl, by decide, by decide⟩ rfl rfl (by decide +kernel) ⟨Nat.le_of_ble_eq_true rfl, Nat.le_of_ble_eq_true rfl⟩ hP hD hS hA hE [0, 1] rfl (by decide) 0 rfl rfl rfl hl.1 rfl (Nat.le_of_ble_eq_true rfl) dX4_readSide_3 ⟨Nat.le_of_ble_eq_true rfl, Nat.le_of_ble_eq_true rfl⟩) hP hD hS hA [0, 1] [2, 3] [2, 3, 0, 1] rfl rfl (by decide) (by decide) rfl (by decide) (fun H locs hP hD hS => ?_)
    refine lv_if_eq (tgt := 17) hx hb dX4_readSide_6 (by decide) (fun c_2 => ?_) (fun c_2 => ?_)
    · rw [if_pos c_2] at hf
      refine lv_aload_n hx hb dX4_readSide_17 rfl (lv_at hl 0 rfl) ?_
      refine va_ldcS (tx := "right") (q := dA (100 + 8)) hx hb hown (hE.2.2.2 ("BusSeats$Parser", 139, "right", 8) (by decide)) dX4_readSide_18 ?_
      obtain ⟨r3, hc3, hf⟩ := kb_bind hf
      refine kb_ci (ws2 := (w_Parser dA a ps ++ (w_Cab dA ca cb))) (kb_rV (n := 1) (As := [.ref (dA (100 + 8))]) (rest := []) hx hb hml hown hK (c_X4_isWord l D dA H.size a ps 8 (by decide) r3 hc3) ⟨ww_2_233, ww_2_230, ww_2_232, ws_4, ww_1_2, rfl, by decide, by decide⟩ rfl rfl (by decide +kernel) ⟨Nat.le_of_ble_eq_true rfl, Nat.le_of_ble_eq_true rfl⟩ hP hD hS hA hE [0, 1] rfl (by decide) 0 rfl rfl rfl hl.1 rfl (Nat.le_of_ble_eq_true rfl) dX4_readSide_20 ⟨Nat.le_of_ble_eq_true rfl, Nat.le_of_ble_eq_true rfl⟩) hP hD hS hA [0, 1] [2, 3] [2, 3, 0, 1] rfl rfl (by decide) (by decide) rfl (by decide) (fun H locs hP hD hS => ?_)
      refine lv_if_eq (tgt := 34) hx hb dX4_readSide_23 (by decide) (fun c_4 => ?_) (fun c_4 => ?_)
      · rw [if_pos c_4] at hf
        refine lv_aload_n hx hb dX4_readSide_34 rfl (lv_at hl 0 rfl) ?_
        refine va_ldcS (tx := "none") (q := dA (100 + 9)) hx hb hown (hE.2.2.2 ("BusSeats$Parser", 141, "none", 9) (by decide)) dX4_readSide_35 ?_
        obtain ⟨r5, hc5, hf⟩ := kb_bind hf
        refine kb_ci (ws2 := (w_Parser dA a ps ++ (w_Cab dA ca cb))) (kb_rV (n := 1) (As := [.ref (dA (100 + 9))]) (rest := []) hx hb hml hown hK (c_X4_isWord l D dA H.size a ps 9 (by decide) r5 hc5) ⟨ww_2_233, ww_2_230, ww_2_232, ws_4, ww_1_2, rfl, by decide, by decide⟩ rfl rfl (by decide +kernel) ⟨Nat.le_of_ble_eq_true rfl, Nat.le_of_ble_eq_true rfl⟩ hP hD hS hA hE [0, 1] rfl (by decide) 0 rfl rfl rfl hl.1 rfl (Nat.le_of_ble_eq_true rfl) dX4_readSide_37 ⟨Nat.le_of_ble_eq_true rfl, Nat.le_of_ble_eq_true rfl⟩) hP hD hS hA [0, 1] [2, 3] [2, 3, 0, 1] rfl rfl (by decide) (by decide) rfl (by decide) (fun H locs hP hD hS => ?_)
        refine lv_if_eq (tgt := 51) hx hb dX4_readSide_40 (by decide) (fun c_6 => ?_) (fun c_6 => ?_)
        · rw [if_pos c_6] at hf
          refine lv_aload_n hx hb dX4_readSide_51 rfl (lv_at hl 0 rfl) ?_
          refine lv_iconst (v := (1 : Int32)) hx hb dX4_readSide_52 (by decide) ?_
          obtain ⟨r7, hc7, hf⟩ := kb_bind hf
          refine kb_ci (ws2 := (w_Parser dA a r7.2 ++ (w_Cab dA ca cb))) (kb_rV (n := 1) (As := [.int (1 : Int32)]) (rest := []) hx hb hml hown hK (c_X4_failed l D dA H.size a ps (1 : Int32) r7.1 r7.2 hc7) ⟨ww_3_49, ww_3_46, ww_3_48, ws_6, ww_1_2, rfl, by decide, by decide⟩ rfl rfl (by decide +kernel) ⟨Nat.le_of_ble_eq_true rfl, Nat.le_of_ble_eq_true rfl⟩ hP hD hS hA hE [0, 1] rfl (by decide) 0 rfl rfl rfl hl.1 rfl (Nat.le_of_ble_eq_true rfl) dX4_readSide_53 ⟨Nat.le_of_ble_eq_true rfl, Nat.le_of_ble_eq_true rfl⟩) hP hD hS hA [0, 1] [2, 3] [2, 3, 0, 1] rfl rfl (by decide) (by decide) rfl (by decide) (fun H locs hP hD hS => ?_)
          obtain ⟨h_8, hf⟩ := kb_if hf
          exact RET _ _ _ H _ ls 56 hf hP hD hS h_8 dX4_readSide_56
        · rw [if_neg c_6] at hf
          refine lv_aload_n hx hb dX4_readSide_43 rfl (lv_at hl 1 rfl) ?_
          refine lv_iconst (v := (2 : Int32)) hx hb dX4_readSide_44 (by decide) ?_
          refine va_put (D := D) (ci := 0) (v := .int (2 : Int32)) (ty := .int) (C := RX0) (T := TX0) (N := 8) hx hb hts kb_inX0 tyX0 tyX0_ok nmX0 hown hK.1 hP hD hS 2 rfl rfl 5 (by decide) (hK.2.w ww_1_102 rfl _) (fun _ h9 => h9) rfl (by decide +kernel) rfl rfl (Nat.le_of_ble_eq_true rfl) dX4_readSide_45 (fun H locs hP hD hS => ?_)
          have hP : va_P D vwCl (w_Parser dA a ps ++ (w_Cab dA ca (cb_set_sun cb (2 : Int32)))) H := hP
          have hD : va_D A (w_Parser dA a ps ++ (w_Cab dA ca (cb_set_sun cb (2 : Int32)))) := hD
          refine lv_goto (tgt := 57) hx hb dX4_readSide_48 (by decide) ?_
          exact B_57 _ _ _ _ _ hf hP hD hS (lv_sub hl [0] rfl)
      · rw [if_neg c_4] at hf
        refine lv_aload_n hx hb dX4_readSide_26 rfl (lv_at hl 1 rfl) ?_
        refine lv_iconst (v := (1 : Int32)) hx hb dX4_readSide_27 (by decide) ?_
        refine va_put (D := D) (ci := 0) (v := .int (1 : Int32)) (ty := .int) (C := RX0) (T := TX0) (N := 8) hx hb hts kb_inX0 tyX0 tyX0_ok nmX0 hown hK.1 hP hD hS 2 rfl rfl 5 (by decide) (hK.2.w ww_1_102 rfl _) (fun _ h9 => h9) rfl (by decide +kernel) rfl rfl (Nat.le_of_ble_eq_true rfl) dX4_readSide_28 (fun H locs hP hD hS => ?_)
        have hP : va_P D vwCl (w_Parser dA a ps ++ (w_Cab dA ca (cb_set_sun cb (1 : Int32)))) H := hP
        have hD : va_D A (w_Parser dA a ps ++ (w_Cab dA ca (cb_set_sun cb (1 : Int32)))) := hD
        refine lv_goto (tgt := 57) hx hb dX4_readSide_31 (by decide) ?_
        exact B_57 _ _ _ _ _ hf hP hD hS (lv_sub hl [0] rfl)
    · rw [if_neg c_2] at hf
      refine lv_aload_n hx hb dX4_readSide_9 rfl (lv_at hl 1 rfl) ?_
      refine lv_iconst (v := (0 : Int32)) hx hb dX4_readSide_10 (by decide) ?_
      refine va_put (D := D) (ci := 0) (v := .int (0 : Int32)) (ty := .int) (C := RX0) (T := TX0) (N := 8) hx hb hts kb_inX0 tyX0 tyX0_ok nmX0 hown hK.1 hP hD hS 2 rfl rfl 5 (by decide) (hK.2.w ww_1_102 rfl _) (fun _ h9 => h9) rfl (by decide +kernel) rfl rfl (Nat.le_of_ble_eq_true rfl) dX4_readSide_11 (fun H locs hP hD hS => ?_)
      have hP : va_P D vwCl (w_Parser dA a ps ++ (w_Cab dA ca (cb_set_sun cb (0 : Int32)))) H := hP
      have hD : va_D A (w_Parser dA a ps ++ (w_Cab dA ca (cb_set_sun cb (0 : Int32)))) := hD
      refine lv_goto (tgt := 57) hx hb dX4_readSide_14 (by decide) ?_
      exact B_57 _ _ _ _ _ hf hP hD hS (lv_sub hl [0] rfl)
  exact E0 _ _ hP hD hS

noncomputable def f_X4_isFresh_b37 (pl : PlanT) (z0 : ParserT) : Option (Int32 × ParserT) := (f_X4_failed z0 (3 : Int32)).bind fun r5 => if kb_01 r5.1 then some (r5.1, r5.2) else none
noncomputable def f_X4_isFresh (ps : ParserT) (pl : PlanT) : Option (Int32 × ParserT) := (f_X4_isName ps).bind fun r1 => (if r1 = 0 then (f_X4_failed ps (1 : Int32)).bind fun r9 => if kb_01 r9.1 then some (r9.1, r9.2) else none else (f_X5_ruleNamed pl (ps_word ps)).bind fun r3 => (if r3 = (-1 : Int32) then (f_X5_riderNamed pl (ps_word ps)).bind fun r7 => (if r7 = (-1 : Int32) then some ((1 : Int32), ps) else f_X4_isFresh_b37 pl ps) else f_X4_isFresh_b37 pl ps))
set_option maxHeartbeats 4000000 in
set_option maxRecDepth 100000 in
theorem c_X4_isFresh (l : Launch) (D : va_G) (dA : Nat → ClassId) (sz : Nat) (a : Nat → Nat) (pa : Nat → Nat) (ps : ParserT) (pl : PlanT) (rv : Int32) (u0 : ParserT) (hf : f_X4_isFresh ps pl = some (rv, u0)) : kb_Mi l yX4_isFresh cX4_isFresh 2 (some .boolean) ({ frames := 7, cells := 0, slots := 0, locals := 148 } : Room) D dA [.ref (a 0), .ref (pa 0)] sz (w_Parser dA a ps ++ (w_Plan dA pa pl)) 0 0 rv (w_Parser dA a u0 ++ (w_Plan dA pa pl)) := by
  refine Met.ofW (cc := cX4_isFresh) (maxL := 2) (ret := (some .boolean)) (by decide) rfl ?_
  intro p e s m args below meth c s₁ B hml hv
  obtain ⟨rfl, hsz, hP, hK, hD0, hE⟩ := hv
  have hx := B.exec
  have hb := B.bytes
  have hr := B.returns
  have hown : s.vm.findClass RX4 = some m.cls := findClass_of_methodNamed B.named
  have hlocks := B.notSynchronized
  have hts : ∀ w ∈ kb_gw, w.before ([.ref (a 0), .ref (pa 0)] : List Value).toArray s = true := fun w hw => hK.2.1 w hw _
  subst hsz
  have hD := hD0.self (sz := s.heap.size)
  generalize hAe : va_A (w_Parser dA a ps ++ (w_Plan dA pa pl)) s.heap.size = A at hD hE ⊢
  have hA : ∀ q : Nat, s.heap.size ≤ q → A q := fun q h => by rw [← hAe]; exact Or.inr h
  have hS : va_S A s.heap s.heap [] := va_S.rf
  have hl := lv_entry ([.ref (a 0), .ref (pa 0)]) (n := 2) (Nat.le_of_ble_eq_true rfl)
  rw [lg_entry_eq]
  generalize (lg_sl ([.ref (a 0), .ref (pa 0)]) ++ List.replicate (2 - (lg_sl ([.ref (a 0), .ref (pa 0)])).length) Slot.unset).toArray = ls at hl ⊢
  have hl : lv_has ls 2 [(0, .ref (a 0)), (1, .ref (pa 0))] := hl
  generalize hQ : MQ below (va_Qi (fun r (_ : Unit) => r = rv) (kb_B D A (w_Parser dA a u0 ++ (w_Plan dA pa pl))) A) ([.ref (a 0), .ref (pa 0)] : List Value).toArray s 0 0 A = Q
  show W p l e ({ frames := 7, cells := 0, slots := 0, locals := 148 } : Room) s m ([.ref (a 0), .ref (pa 0)] : List Value).toArray below meth c s.heap [] 0 0 Q (F0 m 0 ls [])
  have RET : ∀ (r2 : Int32) (w0 : ParserT) (H : Heap) (locs : List Loc) (ls : Array Slot) (pc : Nat), some (r2, w0) = some (rv, u0) → va_P D vwCl (w_Parser dA a w0 ++ (w_Plan dA pa pl)) H → va_D A (w_Parser dA a w0 ++ (w_Plan dA pa pl)) → va_S A s.heap H locs → kb_01 r2 → decode cX4_isFresh pc = .ok (.ireturn, 1) → W p l e ({ frames := 7, cells := 0, slots := 0, locals := 148 } : Room) s m ([.ref (a 0), .ref (pa 0)] : List Value).toArray below meth c H locs 0 0 Q (F0 m pc ls [.int r2]) := by
    intro r2 w0 H locs ls pc hq hP hD hS h01 hd
    cases hq
    rw [← hQ]
    exact W.zret (ty := .boolean) hx hb hr (kb_nz h01) (fun t ht hW => ⟨⟨_, (), rfl, rfl, by rw [ht]; exact hP, hD⟩, hS.F ht⟩) hS.2.2 hd
  have B_37 : ∀ (z0 : ParserT) (H : Heap) (locs : List Loc) (ls : Array Slot), f_X4_isFresh_b37 pl z0 = some (rv, u0) → va_P D vwCl (w_Parser dA a z0 ++ (w_Plan dA pa pl)) H → va_D A (w_Parser dA a z0 ++ (w_Plan dA pa pl)) → va_S A s.heap H locs → lv_has ls 2 [(0, .ref (a 0))] → W p l e ({ frames := 7, cells := 0, slots := 0, locals := 148 } : Room) s m ([.ref (a 0), .ref (pa 0)] : List Value).toArray below meth c H locs 0 0 Q (F0 m 37 ls []) := by
    intro z0 H locs ls hf hP hD hS hl
    rw [f_X4_isFresh_b37] at hf
    refine lv_aload_n hx hb dX4_isFresh_37 rfl (lv_at hl 0 rfl) ?_
    refine lv_iconst (v := (3 : Int32)) hx hb dX4_isFresh_38 (by decide) ?_
    obtain ⟨r5, hc5, hf⟩ := kb_bind hf
    refine kb_ci (ws2 := (w_Parser dA a r5.2 ++ (w_Plan dA pa pl))) (kb_rV (n := 1) (As := [.int (3 : Int32)]) (rest := []) hx hb hml hown hK (c_X4_failed l D dA H.size a z0 (3 : Int32) r5.1 r5.2 hc5) ⟨ww_3_49, ww_3_46, ww_3_48, ws_6, ww_1_2, rfl, by decide, by decide⟩ rfl rfl (by decide +kernel) ⟨Nat.le_of_ble_eq_true rfl, Nat.le_of_ble_eq_true rfl⟩ hP hD hS hA hE [0, 1] rfl (by decide) 0 rfl rfl rfl hl.1 rfl (Nat.le_of_ble_eq_true rfl) dX4_isFresh_39 ⟨Nat.le_of_ble_eq_true rfl, Nat.le_of_ble_eq_true rfl⟩) hP hD hS hA [0, 1] [2, 3, 4, 5, 6, 7, 8, 9, 10, 11, 12, 13, 14, 15, 16, 17, 18, 19, 20, 21, 22] [21, 22, 0, 1, 2, 3, 4, 5, 6, 7, 8, 9, 10, 11, 12, 13, 14, 15, 16, 17, 18, 19, 20] rfl rfl (by decide) (by decide) rfl (by decide) (fun H locs hP hD hS => ?_)
    obtain ⟨h_6, hf⟩ := kb_if hf
    exact RET _ _ H _ ls 42 hf hP hD hS h_6 dX4_isFresh_42
  have E0 : ∀ (H : Heap) (locs : List Loc), va_P D vwCl (w_Parser dA a ps ++ (w_Plan dA pa pl)) H → va_D A (w_Parser dA a ps ++ (w_Plan dA pa pl)) → va_S A s.heap H locs → W p l e ({ frames := 7, cells := 0, slots := 0, locals := 148 } : Room) s m ([.ref (a 0), .ref (pa 0)] : List Value).toArray below meth c H locs 0 0 Q (F0 m 0 ls []) := by
    intro H locs hP hD hS
    rw [f_X4_isFresh] at hf
    refine lv_aload_n hx hb dX4_isFresh_0 rfl (lv_at hl 0 rfl) ?_
    obtain ⟨r1, hc1, hf⟩ := kb_bind hf
    refine kb_ci (ws2 := (w_Parser dA a ps ++ (w_Plan dA pa pl))) (kb_rV (n := 0) (As := []) (rest := []) hx hb hml hown hK (c_X4_isName l D dA H.size a ps r1 hc1) ⟨ww_3_97, ww_3_94, ww_3_96, ws_13, ww_1_2, rfl, by decide, by decide⟩ rfl rfl (by decide +kernel) ⟨Nat.le_of_ble_eq_true rfl, Nat.le_of_ble_eq_true rfl⟩ hP hD hS hA hE [0, 1] rfl (by decide) 0 rfl rfl rfl hl.1 rfl (Nat.le_of_ble_eq_true rfl) dX4_isFresh_1 ⟨Nat.le_of_ble_eq_true rfl, Nat.le_of_ble_eq_true rfl⟩) hP hD hS hA [0, 1] [2, 3, 4, 5, 6, 7, 8, 9, 10, 11, 12, 13, 14, 15, 16, 17, 18, 19, 20, 21, 22] [21, 22, 0, 1, 2, 3, 4, 5, 6, 7, 8, 9, 10, 11, 12, 13, 14, 15, 16, 17, 18, 19, 20] rfl rfl (by decide) (by decide) rfl (by decide) (fun H locs hP hD hS => ?_)
    refine lv_if_ne (tgt := 13) hx hb dX4_isFresh_4 (by decide) (fun c_2 => ?_) (fun c_2 => ?_)
    · rw [if_neg c_2] at hf
      refine lv_aload_n hx hb dX4_isFresh_13 rfl (lv_at hl 1 rfl) ?_
      refine lv_aload_n hx hb dX4_isFresh_14 rfl (lv_at hl 0 rfl) ?_
      refine va_get (D := D) (ci := 4) (v := .long (ps_word ps)) (C := RX4) (T := TX4) (N := 10) hx hb hts kb_inX4 hown hK.1 hP 0 rfl rfl 9 (by decide) (hK.2.w ww_1_51 rfl _) (fun _ h9 => h9) rfl dX4_isFresh_15 ?_
      obtain ⟨r3, hc3, hf⟩ := kb_bind hf
      refine kb_ci (ws2 := (w_Parser dA a ps ++ (w_Plan dA pa pl))) (kb_rV (n := 1) (As := [.long (ps_word ps)]) (rest := []) hx hb hml hown hK (c_X5_ruleNamed l D dA H.size pa pl (ps_word ps) r3 hc3) ⟨ww_3_122, ww_3_119, ww_3_120, ww_3_121, ww_1_3, rfl, by decide, by decide⟩ rfl rfl (by decide +kernel) ⟨Nat.le_of_ble_eq_true rfl, Nat.le_of_ble_eq_true rfl⟩ hP hD hS hA hE [2, 3, 4, 5, 6, 7, 8, 9, 10, 11, 12, 13, 14, 15, 16, 17, 18, 19, 20, 21, 22] rfl (by decide) 0 rfl rfl rfl hl.1 rfl (Nat.le_of_ble_eq_true rfl) dX4_isFresh_18 ⟨Nat.le_of_ble_eq_true rfl, Nat.le_of_ble_eq_true rfl⟩) hP hD hS hA [2, 3, 4, 5, 6, 7, 8, 9, 10, 11, 12, 13, 14, 15, 16, 17, 18, 19, 20, 21, 22] [0, 1] [0, 1, 2, 3, 4, 5, 6, 7, 8, 9, 10, 11, 12, 13, 14, 15, 16, 17, 18, 19, 20, 21, 22] rfl rfl (by decide) (by decide) rfl (by decide) (fun H locs hP hD hS => ?_)
      refine lv_iconst (v := (-1 : Int32)) hx hb dX4_isFresh_21 (by decide) ?_
      refine lv_icmp_ne (tgt := 37) hx hb dX4_isFresh_22 (by decide) (fun c_4 => ?_) (fun c_4 => ?_)
      · rw [if_neg c_4] at hf
        exact B_37 _ _ _ _ hf hP hD hS (lv_sub hl [0] rfl)
      · rw [if_pos c_4] at hf
        refine lv_aload_n hx hb dX4_isFresh_25 rfl (lv_at hl 1 rfl) ?_
        refine lv_aload_n hx hb dX4_isFresh_26 rfl (lv_at hl 0 rfl) ?_
        refine va_get (D := D) (ci := 4) (v := .long (ps_word ps)) (C := RX4) (T := TX4) (N := 10) hx hb hts kb_inX4 hown hK.1 hP 0 rfl rfl 9 (by decide) (hK.2.w ww_1_51 rfl _) (fun _ h9 => h9) rfl dX4_isFresh_27 ?_
        obtain ⟨r7, hc7, hf⟩ := kb_bind hf
        refine kb_ci (ws2 := (w_Parser dA a ps ++ (w_Plan dA pa pl))) (kb_rV (n := 1) (As := [.long (ps_word ps)]) (rest := []) hx hb hml hown hK (c_X5_riderNamed l D dA H.size pa pl (ps_word ps) r7 hc7) ⟨ww_3_126, ww_3_123, ww_3_124, ww_3_125, ww_1_3, rfl, by decide, by decide⟩ rfl rfl (by decide +kernel) ⟨Nat.le_of_ble_eq_true rfl, Nat.le_of_ble_eq_true rfl⟩ hP hD hS hA hE [2, 3, 4, 5, 6, 7, 8, 9, 10, 11, 12, 13, 14, 15, 16, 17, 18, 19, 20, 21, 22] rfl (by decide) 0 rfl rfl rfl hl.1 rfl (Nat.le_of_ble_eq_true rfl) dX4_isFresh_30 ⟨Nat.le_of_ble_eq_true rfl, Nat.le_of_ble_eq_true rfl⟩) hP hD hS hA [2, 3, 4, 5, 6, 7, 8, 9, 10, 11, 12, 13, 14, 15, 16, 17, 18, 19, 20, 21, 22] [0, 1] [0, 1, 2, 3, 4, 5, 6, 7, 8, 9, 10, 11, 12, 13, 14, 15, 16, 17, 18, 19, 20, 21, 22] rfl rfl (by decide) (by decide) rfl (by decide) (fun H locs hP hD hS => ?_)
        refine lv_iconst (v := (-1 : Int32)) hx hb dX4_isFresh_33 (by decide) ?_
        refine lv_icmp_eq (tgt := 43) hx hb dX4_isFresh_34 (by decide) (fun c_8 => ?_) (fun c_8 => ?_)
        · rw [if_pos c_8] at hf
          refine lv_iconst (v := (1 : Int32)) hx hb dX4_isFresh_43 (by decide) ?_
          exact RET _ _ H _ ls 44 hf hP hD hS (by decide) dX4_isFresh_44
        · rw [if_neg c_8] at hf
          exact B_37 _ _ _ _ hf hP hD hS (lv_sub hl [0] rfl)
    · rw [if_pos c_2] at hf
      refine lv_aload_n hx hb dX4_isFresh_7 rfl (lv_at hl 0 rfl) ?_
      refine lv_iconst (v := (1 : Int32)) hx hb dX4_isFresh_8 (by decide) ?_
      obtain ⟨r9, hc9, hf⟩ := kb_bind hf
      refine kb_ci (ws2 := (w_Parser dA a r9.2 ++ (w_Plan dA pa pl))) (kb_rV (n := 1) (As := [.int (1 : Int32)]) (rest := []) hx hb hml hown hK (c_X4_failed l D dA H.size a ps (1 : Int32) r9.1 r9.2 hc9) ⟨ww_3_49, ww_3_46, ww_3_48, ws_6, ww_1_2, rfl, by decide, by decide⟩ rfl rfl (by decide +kernel) ⟨Nat.le_of_ble_eq_true rfl, Nat.le_of_ble_eq_true rfl⟩ hP hD hS hA hE [0, 1] rfl (by decide) 0 rfl rfl rfl hl.1 rfl (Nat.le_of_ble_eq_true rfl) dX4_isFresh_9 ⟨Nat.le_of_ble_eq_true rfl, Nat.le_of_ble_eq_true rfl⟩) hP hD hS hA [0, 1] [2, 3, 4, 5, 6, 7, 8, 9, 10, 11, 12, 13, 14, 15, 16, 17, 18, 19, 20, 21, 22] [21, 22, 0, 1, 2, 3, 4, 5, 6, 7, 8, 9, 10, 11, 12, 13, 14, 15, 16, 17, 18, 19, 20] rfl rfl (by decide) (by decide) rfl (by decide) (fun H locs hP hD hS => ?_)
      obtain ⟨h_10, hf⟩ := kb_if hf
      exact RET _ _ H _ ls 12 hf hP hD hS h_10 dX4_isFresh_12
  exact E0 _ _ hP hD hS

noncomputable def f_X4_knownRider (ps : ParserT) (pl : PlanT) : Option (Int32 × ParserT) := (f_X4_isName ps).bind fun r1 => (if r1 = 0 then (f_X4_failed ps (1 : Int32)).bind fun r6 => some ((-1 : Int32), r6.2) else (f_X5_riderNamed pl (ps_word ps)).bind fun r3 => (if r3 = (-1 : Int32) then (f_X4_failed ps (2 : Int32)).bind fun r5 => some (r3, r5.2) else some (r3, ps)))
set_option maxHeartbeats 4000000 in
set_option maxRecDepth 100000 in
theorem c_X4_knownRider (l : Launch) (D : va_G) (dA : Nat → ClassId) (sz : Nat) (a : Nat → Nat) (pa : Nat → Nat) (ps : ParserT) (pl : PlanT) (rv : Int32) (u0 : ParserT) (hf : f_X4_knownRider ps pl = some (rv, u0)) : kb_Mi l yX4_knownRider cX4_knownRider 3 (some .int) ({ frames := 7, cells := 0, slots := 0, locals := 148 } : Room) D dA [.ref (a 0), .ref (pa 0)] sz (w_Parser dA a ps ++ (w_Plan dA pa pl)) 0 0 rv (w_Parser dA a u0 ++ (w_Plan dA pa pl)) := by
  refine Met.ofW (cc := cX4_knownRider) (maxL := 3) (ret := (some .int)) (by decide) rfl ?_
  intro p e s m args below meth c s₁ B hml hv
  obtain ⟨rfl, hsz, hP, hK, hD0, hE⟩ := hv
  have hx := B.exec
  have hb := B.bytes
  have hr := B.returns
  have hown : s.vm.findClass RX4 = some m.cls := findClass_of_methodNamed B.named
  have hlocks := B.notSynchronized
  have hts : ∀ w ∈ kb_gw, w.before ([.ref (a 0), .ref (pa 0)] : List Value).toArray s = true := fun w hw => hK.2.1 w hw _
  subst hsz
  have hD := hD0.self (sz := s.heap.size)
  generalize hAe : va_A (w_Parser dA a ps ++ (w_Plan dA pa pl)) s.heap.size = A at hD hE ⊢
  have hA : ∀ q : Nat, s.heap.size ≤ q → A q := fun q h => by rw [← hAe]; exact Or.inr h
  have hS : va_S A s.heap s.heap [] := va_S.rf
  have hl := lv_entry ([.ref (a 0), .ref (pa 0)]) (n := 3) (Nat.le_of_ble_eq_true rfl)
  rw [lg_entry_eq]
  generalize (lg_sl ([.ref (a 0), .ref (pa 0)]) ++ List.replicate (3 - (lg_sl ([.ref (a 0), .ref (pa 0)])).length) Slot.unset).toArray = ls at hl ⊢
  have hl : lv_has ls 3 [(0, .ref (a 0)), (1, .ref (pa 0))] := hl
  generalize hQ : MQ below (va_Qi (fun r (_ : Unit) => r = rv) (kb_B D A (w_Parser dA a u0 ++ (w_Plan dA pa pl))) A) ([.ref (a 0), .ref (pa 0)] : List Value).toArray s 0 0 A = Q
  show W p l e ({ frames := 7, cells := 0, slots := 0, locals := 148 } : Room) s m ([.ref (a 0), .ref (pa 0)] : List Value).toArray below meth c s.heap [] 0 0 Q (F0 m 0 ls [])
  have RET : ∀ (r2 : Int32) (w0 : ParserT) (H : Heap) (locs : List Loc) (ls : Array Slot) (pc : Nat), some (r2, w0) = some (rv, u0) → va_P D vwCl (w_Parser dA a w0 ++ (w_Plan dA pa pl)) H → va_D A (w_Parser dA a w0 ++ (w_Plan dA pa pl)) → va_S A s.heap H locs → decode cX4_knownRider pc = .ok (.ireturn, 1) → W p l e ({ frames := 7, cells := 0, slots := 0, locals := 148 } : Room) s m ([.ref (a 0), .ref (pa 0)] : List Value).toArray below meth c H locs 0 0 Q (F0 m pc ls [.int r2]) := by
    intro r2 w0 H locs ls pc hq hP hD hS hd
    cases hq
    rw [← hQ]
    exact W.iret hx hb hr (fun t ht hW => ⟨⟨_, (), rfl, rfl, by rw [ht]; exact hP, hD⟩, hS.F ht⟩) hS.2.2 hd
  have E0 : ∀ (H : Heap) (locs : List Loc), va_P D vwCl (w_Parser dA a ps ++ (w_Plan dA pa pl)) H → va_D A (w_Parser dA a ps ++ (w_Plan dA pa pl)) → va_S A s.heap H locs → W p l e ({ frames := 7, cells := 0, slots := 0, locals := 148 } : Room) s m ([.ref (a 0), .ref (pa 0)] : List Value).toArray below meth c H locs 0 0 Q (F0 m 0 ls []) := by
    intro H locs hP hD hS
    rw [f_X4_knownRider] at hf
    refine lv_aload_n hx hb dX4_knownRider_0 rfl (lv_at hl 0 rfl) ?_
    obtain ⟨r1, hc1, hf⟩ := kb_bind hf
    refine kb_ci (ws2 := (w_Parser dA a ps ++ (w_Plan dA pa pl))) (kb_rV (n := 0) (As := []) (rest := []) hx hb hml hown hK (c_X4_isName l D dA H.size a ps r1 hc1) ⟨ww_3_97, ww_3_94, ww_3_96, ws_13, ww_1_2, rfl, by decide, by decide⟩ rfl rfl (by decide +kernel) ⟨Nat.le_of_ble_eq_true rfl, Nat.le_of_ble_eq_true rfl⟩ hP hD hS hA hE [0, 1] rfl (by decide) 0 rfl rfl rfl hl.1 rfl (Nat.le_of_ble_eq_true rfl) dX4_knownRider_1 ⟨Nat.le_of_ble_eq_true rfl, Nat.le_of_ble_eq_true rfl⟩) hP hD hS hA [0, 1] [2, 3, 4, 5, 6, 7, 8, 9, 10, 11, 12, 13, 14, 15, 16, 17, 18, 19, 20, 21, 22] [21, 22, 0, 1, 2, 3, 4, 5, 6, 7, 8, 9, 10, 11, 12, 13, 14, 15, 16, 17, 18, 19, 20] rfl rfl (by decide) (by decide) rfl (by decide) (fun H locs hP hD hS => ?_)
    refine lv_if_ne (tgt := 15) hx hb dX4_knownRider_4 (by decide) (fun c_2 => ?_) (fun c_2 => ?_)
    · rw [if_neg c_2] at hf
      refine lv_aload_n hx hb dX4_knownRider_15 rfl (lv_at hl 1 rfl) ?_
      refine lv_aload_n hx hb dX4_knownRider_16 rfl (lv_at hl 0 rfl) ?_
      refine va_get (D := D) (ci := 4) (v := .long (ps_word ps)) (C := RX4) (T := TX4) (N := 10) hx hb hts kb_inX4 hown hK.1 hP 0 rfl rfl 9 (by decide) (hK.2.w ww_1_51 rfl _) (fun _ h9 => h9) rfl dX4_knownRider_17 ?_
      obtain ⟨r3, hc3, hf⟩ := kb_bind hf
      refine kb_ci (ws2 := (w_Parser dA a ps ++ (w_Plan dA pa pl))) (kb_rV (n := 1) (As := [.long (ps_word ps)]) (rest := []) hx hb hml hown hK (c_X5_riderNamed l D dA H.size pa pl (ps_word ps) r3 hc3) ⟨ww_3_126, ww_3_123, ww_3_124, ww_3_125, ww_1_3, rfl, by decide, by decide⟩ rfl rfl (by decide +kernel) ⟨Nat.le_of_ble_eq_true rfl, Nat.le_of_ble_eq_true rfl⟩ hP hD hS hA hE [2, 3, 4, 5, 6, 7, 8, 9, 10, 11, 12, 13, 14, 15, 16, 17, 18, 19, 20, 21, 22] rfl (by decide) 0 rfl rfl rfl hl.1 rfl (Nat.le_of_ble_eq_true rfl) dX4_knownRider_20 ⟨Nat.le_of_ble_eq_true rfl, Nat.le_of_ble_eq_true rfl⟩) hP hD hS hA [2, 3, 4, 5, 6, 7, 8, 9, 10, 11, 12, 13, 14, 15, 16, 17, 18, 19, 20, 21, 22] [0, 1] [0, 1, 2, 3, 4, 5, 6, 7, 8, 9, 10, 11, 12, 13, 14, 15, 16, 17, 18, 19, 20, 21, 22] rfl rfl (by decide) (by decide) rfl (by decide) (fun H locs hP hD hS => ?_)
      refine lv_istore_n (lv' := [(2, .int r3), (0, .ref (a 0)), (1, .ref (pa 0))]) hx hb dX4_knownRider_23 rfl hl (by decide) rfl (fun ls hl => ?_)
      refine lv_iload_n hx hb dX4_knownRider_24 rfl (lv_at hl 0 rfl) ?_
      refine lv_iconst (v := (-1 : Int32)) hx hb dX4_knownRider_25 (by decide) ?_
      refine lv_icmp_ne (tgt := 35) hx hb dX4_knownRider_26 (by decide) (fun c_4 => ?_) (fun c_4 => ?_)
      · rw [if_neg c_4] at hf
        refine lv_iload_n hx hb dX4_knownRider_35 rfl (lv_at hl 0 rfl) ?_
        exact RET _ _ H _ ls 36 hf hP hD hS dX4_knownRider_36
      · rw [if_pos c_4] at hf
        refine lv_aload_n hx hb dX4_knownRider_29 rfl (lv_at hl 1 rfl) ?_
        refine lv_iconst (v := (2 : Int32)) hx hb dX4_knownRider_30 (by decide) ?_
        obtain ⟨r5, hc5, hf⟩ := kb_bind hf
        refine kb_ci (ws2 := (w_Parser dA a r5.2 ++ (w_Plan dA pa pl))) (kb_rV (n := 1) (As := [.int (2 : Int32)]) (rest := []) hx hb hml hown hK (c_X4_failed l D dA H.size a ps (2 : Int32) r5.1 r5.2 hc5) ⟨ww_3_49, ww_3_46, ww_3_48, ws_6, ww_1_2, rfl, by decide, by decide⟩ rfl rfl (by decide +kernel) ⟨Nat.le_of_ble_eq_true rfl, Nat.le_of_ble_eq_true rfl⟩ hP hD hS hA hE [0, 1] rfl (by decide) 0 rfl rfl rfl hl.1 rfl (Nat.le_of_ble_eq_true rfl) dX4_knownRider_31 ⟨Nat.le_of_ble_eq_true rfl, Nat.le_of_ble_eq_true rfl⟩) hP hD hS hA [0, 1] [2, 3, 4, 5, 6, 7, 8, 9, 10, 11, 12, 13, 14, 15, 16, 17, 18, 19, 20, 21, 22] [21, 22, 0, 1, 2, 3, 4, 5, 6, 7, 8, 9, 10, 11, 12, 13, 14, 15, 16, 17, 18, 19, 20] rfl rfl (by decide) (by decide) rfl (by decide) (fun H locs hP hD hS => ?_)
        refine lv_pop hx hb dX4_knownRider_34 rfl ?_
        refine lv_iload_n hx hb dX4_knownRider_35 rfl (lv_at hl 0 rfl) ?_
        exact RET _ _ H _ ls 36 hf hP hD hS dX4_knownRider_36
    · rw [if_pos c_2] at hf
      refine lv_aload_n hx hb dX4_knownRider_7 rfl (lv_at hl 0 rfl) ?_
      refine lv_iconst (v := (1 : Int32)) hx hb dX4_knownRider_8 (by decide) ?_
      obtain ⟨r6, hc6, hf⟩ := kb_bind hf
      refine kb_ci (ws2 := (w_Parser dA a r6.2 ++ (w_Plan dA pa pl))) (kb_rV (n := 1) (As := [.int (1 : Int32)]) (rest := []) hx hb hml hown hK (c_X4_failed l D dA H.size a ps (1 : Int32) r6.1 r6.2 hc6) ⟨ww_3_49, ww_3_46, ww_3_48, ws_6, ww_1_2, rfl, by decide, by decide⟩ rfl rfl (by decide +kernel) ⟨Nat.le_of_ble_eq_true rfl, Nat.le_of_ble_eq_true rfl⟩ hP hD hS hA hE [0, 1] rfl (by decide) 0 rfl rfl rfl hl.1 rfl (Nat.le_of_ble_eq_true rfl) dX4_knownRider_9 ⟨Nat.le_of_ble_eq_true rfl, Nat.le_of_ble_eq_true rfl⟩) hP hD hS hA [0, 1] [2, 3, 4, 5, 6, 7, 8, 9, 10, 11, 12, 13, 14, 15, 16, 17, 18, 19, 20, 21, 22] [21, 22, 0, 1, 2, 3, 4, 5, 6, 7, 8, 9, 10, 11, 12, 13, 14, 15, 16, 17, 18, 19, 20] rfl rfl (by decide) (by decide) rfl (by decide) (fun H locs hP hD hS => ?_)
      refine lv_pop hx hb dX4_knownRider_12 rfl ?_
      refine lv_iconst (v := (-1 : Int32)) hx hb dX4_knownRider_13 (by decide) ?_
      exact RET _ _ H _ ls 14 hf hP hD hS dX4_knownRider_14
  exact E0 _ _ hP hD hS

noncomputable def f_X4_readWay_b64 (z0 : ParserT) (z1 : RulesT) : Option (Int32 × ParserT × RulesT) := (f_X4_advance z0).bind fun r7 => some ((1 : Int32), r7, z1)
noncomputable def f_X4_readWay (ps : ParserT) (ru : RulesT) (ix0 : Nat) : Option (Int32 × ParserT × RulesT) := (f_X4_wayHere ps).bind fun r1 => (if r1 = (-1 : Int32) then (f_X4_failed ps (1 : Int32)).bind fun r12 => if kb_01 r12.1 then some (r12.1, r12.2, ru) else none else (f_X8_wants ru (ix0) r1).bind fun r3 => (if r3 = 0 then (if ((ru_count ru) ix0) < (4 : Int32) then if kb_in? ((ru_count ru) ix0) 4 then f_X4_readWay_b64 ps (ru_set_count (ru_set_wanted ru (va_up (ru_wanted ru) (ix0) (upd ((ru_wanted ru) (ix0)) (((ru_count ru) ix0)).toNatClampNeg r1))) (upd (ru_count (ru_set_wanted ru (va_up (ru_wanted ru) (ix0) (upd ((ru_wanted ru) (ix0)) (((ru_count ru) ix0)).toNatClampNeg r1)))) (ix0) (((ru_count (ru_set_wanted ru (va_up (ru_wanted ru) (ix0) (upd ((ru_wanted ru) (ix0)) (((ru_count ru) ix0)).toNatClampNeg r1)))) ix0) + (1 : Int32)))) else none else (f_X4_failed ps (5 : Int32)).bind fun r8 => if kb_01 r8.1 then some (r8.1, r8.2, ru) else none) else (f_X4_failed ps (3 : Int32)).bind fun r10 => if kb_01 r10.1 then some (r10.1, r10.2, ru) else none))
set_option maxHeartbeats 4000000 in
set_option maxRecDepth 100000 in
theorem c_X4_readWay (l : Launch) (D : va_G) (dA : Nat → ClassId) (sz : Nat) (a : Nat → Nat) (ua : Nat → Nat) (ps : ParserT) (ru : RulesT) (ix0 : Nat) (hix0 : ix0 < 4) (rv : Int32) (u0 : ParserT) (u1 : RulesT) (hf : f_X4_readWay ps ru ix0 = some (rv, u0, u1)) : kb_Mi l yX4_readWay cX4_readWay 3 (some .boolean) ({ frames := 6, cells := 0, slots := 0, locals := 128 } : Room) D dA [.ref (a 0), .ref (ua ix0)] sz (w_Parser dA a ps ++ (w_Rules dA ua ru)) 0 0 rv (w_Parser dA a u0 ++ (w_Rules dA ua u1)) := by
  refine Met.ofW (cc := cX4_readWay) (maxL := 3) (ret := (some .boolean)) (by decide) rfl ?_
  intro p e s m args below meth c s₁ B hml hv
  obtain ⟨rfl, hsz, hP, hK, hD0, hE⟩ := hv
  have hx := B.exec
  have hb := B.bytes
  have hr := B.returns
  have hown : s.vm.findClass RX4 = some m.cls := findClass_of_methodNamed B.named
  have hlocks := B.notSynchronized
  have hts : ∀ w ∈ kb_gw, w.before ([.ref (a 0), .ref (ua ix0)] : List Value).toArray s = true := fun w hw => hK.2.1 w hw _
  subst hsz
  have hD := hD0.self (sz := s.heap.size)
  generalize hAe : va_A (w_Parser dA a ps ++ (w_Rules dA ua ru)) s.heap.size = A at hD hE ⊢
  have hA : ∀ q : Nat, s.heap.size ≤ q → A q := fun q h => by rw [← hAe]; exact Or.inr h
  have hS : va_S A s.heap s.heap [] := va_S.rf
  have hl := lv_entry ([.ref (a 0), .ref (ua ix0)]) (n := 3) (Nat.le_of_ble_eq_true rfl)
  rw [lg_entry_eq]
  generalize (lg_sl ([.ref (a 0), .ref (ua ix0)]) ++ List.replicate (3 - (lg_sl ([.ref (a 0), .ref (ua ix0)])).length) Slot.unset).toArray = ls at hl ⊢
  have hl : lv_has ls 3 [(0, .ref (a 0)), (1, .ref (ua ix0))] := hl
  generalize hQ : MQ below (va_Qi (fun r (_ : Unit) => r = rv) (kb_B D A (w_Parser dA a u0 ++ (w_Rules dA ua u1))) A) ([.ref (a 0), .ref (ua ix0)] : List Value).toArray s 0 0 A = Q
  show W p l e ({ frames := 6, cells := 0, slots := 0, locals := 128 } : Room) s m ([.ref (a 0), .ref (ua ix0)] : List Value).toArray below meth c s.heap [] 0 0 Q (F0 m 0 ls [])
  have RET : ∀ (r2 : Int32) (w0 : ParserT) (w1 : RulesT) (H : Heap) (locs : List Loc) (ls : Array Slot) (pc : Nat), some (r2, w0, w1) = some (rv, u0, u1) → va_P D vwCl (w_Parser dA a w0 ++ (w_Rules dA ua w1)) H → va_D A (w_Parser dA a w0 ++ (w_Rules dA ua w1)) → va_S A s.heap H locs → kb_01 r2 → decode cX4_readWay pc = .ok (.ireturn, 1) → W p l e ({ frames := 6, cells := 0, slots := 0, locals := 128 } : Room) s m ([.ref (a 0), .ref (ua ix0)] : List Value).toArray below meth c H locs 0 0 Q (F0 m pc ls [.int r2]) := by
    intro r2 w0 w1 H locs ls pc hq hP hD hS h01 hd
    cases hq
    rw [← hQ]
    exact W.zret (ty := .boolean) hx hb hr (kb_nz h01) (fun t ht hW => ⟨⟨_, (), rfl, rfl, by rw [ht]; exact hP, hD⟩, hS.F ht⟩) hS.2.2 hd
  have B_64 : ∀ (z0 : ParserT) (z1 : RulesT) (H : Heap) (locs : List Loc) (ls : Array Slot), f_X4_readWay_b64 z0 z1 = some (rv, u0, u1) → va_P D vwCl (w_Parser dA a z0 ++ (w_Rules dA ua z1)) H → va_D A (w_Parser dA a z0 ++ (w_Rules dA ua z1)) → va_S A s.heap H locs → lv_has ls 3 [(0, .ref (a 0))] → W p l e ({ frames := 6, cells := 0, slots := 0, locals := 128 } : Room) s m ([.ref (a 0), .ref (ua ix0)] : List Value).toArray below meth c H locs 0 0 Q (F0 m 64 ls []) := by
    intro z0 z1 H locs ls hf hP hD hS hl
    rw [f_X4_readWay_b64] at hf
    refine lv_aload_n hx hb dX4_readWay_64 rfl (lv_at hl 0 rfl) ?_
    obtain ⟨r7, hc7, hf⟩ := kb_bind hf
    refine kb_cv (ws2 := (w_Parser dA a r7 ++ (w_Rules dA ua z1))) (kb_rV (n := 0) (As := []) (rest := []) hx hb hml hown hK (c_X4_advance l D dA H.size a z0 r7 hc7) ⟨ww_2_219, ww_2_216, ww_2_218, ws_1, ww_1_2, rfl, by decide, by decide⟩ rfl rfl (by decide +kernel) ⟨Nat.le_of_ble_eq_true rfl, Nat.le_of_ble_eq_true rfl⟩ hP hD hS hA hE [0, 1] rfl (by decide) 0 rfl rfl rfl hl.1 rfl (Nat.le_of_ble_eq_true rfl) dX4_readWay_65 ⟨Nat.le_of_ble_eq_true rfl, Nat.le_of_ble_eq_true rfl⟩) hP hD hS hA [0, 1] [2, 3, 4, 5, 6, 7, 8, 9] [8, 9, 0, 1, 2, 3, 4, 5, 6, 7] rfl rfl (by decide) (by decide) rfl (by decide) (fun H locs hP hD hS => ?_)
    refine lv_iconst (v := (1 : Int32)) hx hb dX4_readWay_68 (by decide) ?_
    exact RET _ _ _ H _ ls 69 hf hP hD hS (by decide) dX4_readWay_69
  have E0 : ∀ (H : Heap) (locs : List Loc), va_P D vwCl (w_Parser dA a ps ++ (w_Rules dA ua ru)) H → va_D A (w_Parser dA a ps ++ (w_Rules dA ua ru)) → va_S A s.heap H locs → W p l e ({ frames := 6, cells := 0, slots := 0, locals := 128 } : Room) s m ([.ref (a 0), .ref (ua ix0)] : List Value).toArray below meth c H locs 0 0 Q (F0 m 0 ls []) := by
    intro H locs hP hD hS
    rw [f_X4_readWay] at hf
    refine lv_aload_n hx hb dX4_readWay_0 rfl (lv_at hl 0 rfl) ?_
    obtain ⟨r1, hc1, hf⟩ := kb_bind hf
    refine kb_ci (ws2 := (w_Parser dA a ps ++ (w_Rules dA ua ru))) (kb_rV (n := 0) (As := []) (rest := []) hx hb hml hown hK (c_X4_wayHere l D dA H.size a ps r1 hc1) ⟨ww_3_101, ww_3_98, ww_3_100, ws_14, ww_1_2, rfl, by decide, by decide⟩ rfl rfl (by decide +kernel) ⟨Nat.le_of_ble_eq_true rfl, Nat.le_of_ble_eq_true rfl⟩ hP hD hS hA hE [0, 1] rfl (by decide) 0 rfl rfl rfl hl.1 rfl (Nat.le_of_ble_eq_true rfl) dX4_readWay_1 ⟨Nat.le_of_ble_eq_true rfl, Nat.le_of_ble_eq_true rfl⟩) hP hD hS hA [0, 1] [2, 3, 4, 5, 6, 7, 8, 9] [8, 9, 0, 1, 2, 3, 4, 5, 6, 7] rfl rfl (by decide) (by decide) rfl (by decide) (fun H locs hP hD hS => ?_)
    refine lv_istore_n (lv' := [(2, .int r1), (0, .ref (a 0)), (1, .ref (ua ix0))]) hx hb dX4_readWay_4 rfl hl (by decide) rfl (fun ls hl => ?_)
    refine lv_iload_n hx hb dX4_readWay_5 rfl (lv_at hl 0 rfl) ?_
    refine lv_iconst (v := (-1 : Int32)) hx hb dX4_readWay_6 (by decide) ?_
    refine lv_icmp_ne (tgt := 16) hx hb dX4_readWay_7 (by decide) (fun c_2 => ?_) (fun c_2 => ?_)
    · rw [if_neg c_2] at hf
      refine lv_aload_n hx hb dX4_readWay_16 rfl (lv_at hl 2 rfl) ?_
      refine lv_iload_n hx hb dX4_readWay_17 rfl (lv_at hl 0 rfl) ?_
      obtain ⟨r3, hc3, hf⟩ := kb_bind hf
      refine kb_ci (ws2 := (w_Parser dA a ps ++ (w_Rules dA ua ru))) (kb_rV (n := 1) (As := [.int r1]) (rest := []) hx hb hml hown hK (c_X8_wants l D dA H.size ua ru ix0 hix0 r1 r3 hc3) ⟨ww_3_134, ww_3_131, ww_3_132, ww_3_133, ww_1_5, rfl, by decide, by decide⟩ rfl rfl (by decide +kernel) ⟨Nat.le_of_ble_eq_true rfl, Nat.le_of_ble_eq_true rfl⟩ hP hD hS hA hE [2, 3, 4, 5, 6, 7, 8, 9] rfl (by decide) (ix0) rfl (at_Rules_0 dA ua ru (ix0) hix0) rfl hl.1 rfl (Nat.le_of_ble_eq_true rfl) dX4_readWay_18 ⟨Nat.le_of_ble_eq_true rfl, Nat.le_of_ble_eq_true rfl⟩) hP hD hS hA [2, 3, 4, 5, 6, 7, 8, 9] [0, 1] [0, 1, 2, 3, 4, 5, 6, 7, 8, 9] rfl rfl (by decide) (by decide) rfl (by decide) (fun H locs hP hD hS => ?_)
      refine lv_if_eq (tgt := 30) hx hb dX4_readWay_21 (by decide) (fun c_4 => ?_) (fun c_4 => ?_)
      · rw [if_pos c_4] at hf
        refine lv_aload_n hx hb dX4_readWay_30 rfl (lv_at hl 2 rfl) ?_
        refine va_get (D := D) (ci := 8) (v := .int ((ru_count ru) ix0)) (C := RX8) (T := TX8) (N := 3) hx hb hts kb_inX8 hown hK.1 hP (2 + ix0) (kb_at rfl (at_Rules_0 dA ua ru ix0 hix0)) rfl 1 (by decide) (hK.2.w ww_1_143 rfl _) (fun _ h9 => h9) rfl dX4_readWay_31 ?_
        refine lv_iconst (v := (4 : Int32)) hx hb dX4_readWay_34 (by decide) ?_
        refine lv_icmp_lt (tgt := 44) hx hb dX4_readWay_35 (by decide) (fun c_5 => ?_) (fun c_5 => ?_)
        · rw [if_pos c_5] at hf
          refine lv_aload_n hx hb dX4_readWay_44 rfl (lv_at hl 2 rfl) ?_
          refine va_get (D := D) (ci := 8) (v := .ref (ua (4 + ix0))) (C := RX8) (T := TX8) (N := 3) hx hb hts kb_inX8 hown hK.1 hP (2 + ix0) (kb_at rfl (at_Rules_0 dA ua ru ix0 hix0)) rfl 2 (by decide) (hK.2.w ww_1_147 rfl _) (fun _ h9 => h9) rfl dX4_readWay_45 ?_
          refine lv_aload_n hx hb dX4_readWay_48 rfl (lv_at hl 2 rfl) ?_
          refine va_get (D := D) (ci := 8) (v := .int ((ru_count ru) ix0)) (C := RX8) (T := TX8) (N := 3) hx hb hts kb_inX8 hown hK.1 hP (2 + ix0) (kb_at rfl (at_Rules_0 dA ua ru ix0 hix0)) rfl 1 (by decide) (hK.2.w ww_1_143 rfl _) (fun _ h9 => h9) rfl dX4_readWay_49 ?_
          refine lv_iload_n hx hb dX4_readWay_52 rfl (lv_at hl 0 rfl) ?_
          obtain ⟨h_6, hf⟩ := kb_if hf
          refine va_iast (D := D) hx hb hK.1 hP hD hS (2 + (4 + ix0)) 0 (kb_at rfl (at_Rules_4 dA ua ru ix0 hix0)) rfl h_6 dX4_readWay_53 (fun H locs hP hD hS => ?_)
          have hP : va_P D vwCl (w_Parser dA a ps ++ (w_Rules dA ua (ru_set_wanted ru (va_up (ru_wanted ru) (ix0) (upd ((ru_wanted ru) (ix0)) (((ru_count ru) ix0)).toNatClampNeg r1))))) H := Eq.mp (congrArg (fun w => va_P D vwCl w H) (kb_sat rfl (st_Rules_4 dA ua ru (upd ((ru_wanted ru) (ix0)) (((ru_count ru) ix0)).toNatClampNeg r1) (ix0) hix0))) hP
          have hD : va_D A (w_Parser dA a ps ++ (w_Rules dA ua (ru_set_wanted ru (va_up (ru_wanted ru) (ix0) (upd ((ru_wanted ru) (ix0)) (((ru_count ru) ix0)).toNatClampNeg r1))))) := Eq.mp (congrArg (fun w => va_D A w) (kb_sat rfl (st_Rules_4 dA ua ru (upd ((ru_wanted ru) (ix0)) (((ru_count ru) ix0)).toNatClampNeg r1) (ix0) hix0))) hD
          refine lv_aload_n hx hb dX4_readWay_54 rfl (lv_at hl 2 rfl) ?_
          refine lv_dup hx hb dX4_readWay_55 rfl ?_
          refine va_get (D := D) (ci := 8) (v := .int ((ru_count (ru_set_wanted ru (va_up (ru_wanted ru) (ix0) (upd ((ru_wanted ru) (ix0)) (((ru_count ru) ix0)).toNatClampNeg r1)))) ix0)) (C := RX8) (T := TX8) (N := 3) hx hb hts kb_inX8 hown hK.1 hP (2 + ix0) (kb_at rfl (at_Rules_0 dA ua (ru_set_wanted ru (va_up (ru_wanted ru) (ix0) (upd ((ru_wanted ru) (ix0)) (((ru_count ru) ix0)).toNatClampNeg r1))) ix0 hix0)) rfl 1 (by decide) (hK.2.w ww_1_143 rfl _) (fun _ h9 => h9) rfl dX4_readWay_56 ?_
          refine lv_iconst (v := (1 : Int32)) hx hb dX4_readWay_59 (by decide) ?_
          refine lv_iadd hx hb dX4_readWay_60 ?_
          refine va_put (D := D) (ci := 8) (v := .int (((ru_count (ru_set_wanted ru (va_up (ru_wanted ru) (ix0) (upd ((ru_wanted ru) (ix0)) (((ru_count ru) ix0)).toNatClampNeg r1)))) ix0) + (1 : Int32))) (ty := .int) (C := RX8) (T := TX8) (N := 3) hx hb hts kb_inX8 tyX8 tyX8_ok nmX8 hown hK.1 hP hD hS (2 + ix0) (kb_at rfl (at_Rules_0 dA ua (ru_set_wanted ru (va_up (ru_wanted ru) (ix0) (upd ((ru_wanted ru) (ix0)) (((ru_count ru) ix0)).toNatClampNeg r1))) ix0 hix0)) rfl 1 (by decide) (hK.2.w ww_1_143 rfl _) (fun _ h9 => h9) rfl (by decide +kernel) rfl rfl (Nat.le_of_ble_eq_true rfl) dX4_readWay_61 (fun H locs hP hD hS => ?_)
          have hP : va_P D vwCl (w_Parser dA a ps ++ (w_Rules dA ua (ru_set_count (ru_set_wanted ru (va_up (ru_wanted ru) (ix0) (upd ((ru_wanted ru) (ix0)) (((ru_count ru) ix0)).toNatClampNeg r1))) (upd (ru_count (ru_set_wanted ru (va_up (ru_wanted ru) (ix0) (upd ((ru_wanted ru) (ix0)) (((ru_count ru) ix0)).toNatClampNeg r1)))) (ix0) (((ru_count (ru_set_wanted ru (va_up (ru_wanted ru) (ix0) (upd ((ru_wanted ru) (ix0)) (((ru_count ru) ix0)).toNatClampNeg r1)))) ix0) + (1 : Int32)))))) H := Eq.mp (congrArg (fun w => va_P D vwCl w H) (kb_sat rfl (st_Rules_0_1 dA ua (ru_set_wanted ru (va_up (ru_wanted ru) (ix0) (upd ((ru_wanted ru) (ix0)) (((ru_count ru) ix0)).toNatClampNeg r1))) (((ru_count (ru_set_wanted ru (va_up (ru_wanted ru) (ix0) (upd ((ru_wanted ru) (ix0)) (((ru_count ru) ix0)).toNatClampNeg r1)))) ix0) + (1 : Int32)) (ix0) hix0))) hP
          have hD : va_D A (w_Parser dA a ps ++ (w_Rules dA ua (ru_set_count (ru_set_wanted ru (va_up (ru_wanted ru) (ix0) (upd ((ru_wanted ru) (ix0)) (((ru_count ru) ix0)).toNatClampNeg r1))) (upd (ru_count (ru_set_wanted ru (va_up (ru_wanted ru) (ix0) (upd ((ru_wanted ru) (ix0)) (((ru_count ru) ix0)).toNatClampNeg r1)))) (ix0) (((ru_count (ru_set_wanted ru (va_up (ru_wanted ru) (ix0) (upd ((ru_wanted ru) (ix0)) (((ru_count ru) ix0)).toNatClampNeg r1)))) ix0) + (1 : Int32)))))) := Eq.mp (congrArg (fun w => va_D A w) (kb_sat rfl (st_Rules_0_1 dA ua (ru_set_wanted ru (va_up (ru_wanted ru) (ix0) (upd ((ru_wanted ru) (ix0)) (((ru_count ru) ix0)).toNatClampNeg r1))) (((ru_count (ru_set_wanted ru (va_up (ru_wanted ru) (ix0) (upd ((ru_wanted ru) (ix0)) (((ru_count ru) ix0)).toNatClampNeg r1)))) ix0) + (1 : Int32)) (ix0) hix0))) hD
          exact B_64 _ _ _ _ _ hf hP hD hS (lv_sub hl [1] rfl)
        · rw [if_neg c_5] at hf
          refine lv_aload_n hx hb dX4_readWay_38 rfl (lv_at hl 1 rfl) ?_
          refine lv_iconst (v := (5 : Int32)) hx hb dX4_readWay_39 (by decide) ?_
          obtain ⟨r8, hc8, hf⟩ := kb_bind hf
          refine kb_ci (ws2 := (w_Parser dA a r8.2 ++ (w_Rules dA ua ru))) (kb_rV (n := 1) (As := [.int (5 : Int32)]) (rest := []) hx hb hml hown hK (c_X4_failed l D dA H.size a ps (5 : Int32) r8.1 r8.2 hc8) ⟨ww_3_49, ww_3_46, ww_3_48, ws_6, ww_1_2, rfl, by decide, by decide⟩ rfl rfl (by decide +kernel) ⟨Nat.le_of_ble_eq_true rfl, Nat.le_of_ble_eq_true rfl⟩ hP hD hS hA hE [0, 1] rfl (by decide) 0 rfl rfl rfl hl.1 rfl (Nat.le_of_ble_eq_true rfl) dX4_readWay_40 ⟨Nat.le_of_ble_eq_true rfl, Nat.le_of_ble_eq_true rfl⟩) hP hD hS hA [0, 1] [2, 3, 4, 5, 6, 7, 8, 9] [8, 9, 0, 1, 2, 3, 4, 5, 6, 7] rfl rfl (by decide) (by decide) rfl (by decide) (fun H locs hP hD hS => ?_)
          obtain ⟨h_9, hf⟩ := kb_if hf
          exact RET _ _ _ H _ ls 43 hf hP hD hS h_9 dX4_readWay_43
      · rw [if_neg c_4] at hf
        refine lv_aload_n hx hb dX4_readWay_24 rfl (lv_at hl 1 rfl) ?_
        refine lv_iconst (v := (3 : Int32)) hx hb dX4_readWay_25 (by decide) ?_
        obtain ⟨r10, hc10, hf⟩ := kb_bind hf
        refine kb_ci (ws2 := (w_Parser dA a r10.2 ++ (w_Rules dA ua ru))) (kb_rV (n := 1) (As := [.int (3 : Int32)]) (rest := []) hx hb hml hown hK (c_X4_failed l D dA H.size a ps (3 : Int32) r10.1 r10.2 hc10) ⟨ww_3_49, ww_3_46, ww_3_48, ws_6, ww_1_2, rfl, by decide, by decide⟩ rfl rfl (by decide +kernel) ⟨Nat.le_of_ble_eq_true rfl, Nat.le_of_ble_eq_true rfl⟩ hP hD hS hA hE [0, 1] rfl (by decide) 0 rfl rfl rfl hl.1 rfl (Nat.le_of_ble_eq_true rfl) dX4_readWay_26 ⟨Nat.le_of_ble_eq_true rfl, Nat.le_of_ble_eq_true rfl⟩) hP hD hS hA [0, 1] [2, 3, 4, 5, 6, 7, 8, 9] [8, 9, 0, 1, 2, 3, 4, 5, 6, 7] rfl rfl (by decide) (by decide) rfl (by decide) (fun H locs hP hD hS => ?_)
        obtain ⟨h_11, hf⟩ := kb_if hf
        exact RET _ _ _ H _ ls 29 hf hP hD hS h_11 dX4_readWay_29
    · rw [if_pos c_2] at hf
      refine lv_aload_n hx hb dX4_readWay_10 rfl (lv_at hl 1 rfl) ?_
      refine lv_iconst (v := (1 : Int32)) hx hb dX4_readWay_11 (by decide) ?_
      obtain ⟨r12, hc12, hf⟩ := kb_bind hf
      refine kb_ci (ws2 := (w_Parser dA a r12.2 ++ (w_Rules dA ua ru))) (kb_rV (n := 1) (As := [.int (1 : Int32)]) (rest := []) hx hb hml hown hK (c_X4_failed l D dA H.size a ps (1 : Int32) r12.1 r12.2 hc12) ⟨ww_3_49, ww_3_46, ww_3_48, ws_6, ww_1_2, rfl, by decide, by decide⟩ rfl rfl (by decide +kernel) ⟨Nat.le_of_ble_eq_true rfl, Nat.le_of_ble_eq_true rfl⟩ hP hD hS hA hE [0, 1] rfl (by decide) 0 rfl rfl rfl hl.1 rfl (Nat.le_of_ble_eq_true rfl) dX4_readWay_12 ⟨Nat.le_of_ble_eq_true rfl, Nat.le_of_ble_eq_true rfl⟩) hP hD hS hA [0, 1] [2, 3, 4, 5, 6, 7, 8, 9] [8, 9, 0, 1, 2, 3, 4, 5, 6, 7] rfl rfl (by decide) (by decide) rfl (by decide) (fun H locs hP hD hS => ?_)
      obtain ⟨h_13, hf⟩ := kb_if hf
      exact RET _ _ _ H _ ls 15 hf hP hD hS h_13 dX4_readWay_15
  exact E0 _ _ hP hD hS
