noncomputable def f_X12_comes_b60 (y_w : WT) (bu : BusT) (k7 : Int32 → MOT → ComingT → Option (MOT × ComingT)) (v1 : Int32) (z0 : MOT) (z2 : ComingT) : Option (MOT × ComingT) := k7 (v1 + (1 : Int32)) z0 z2
noncomputable def f_X12_comes_b50 (y_w : WT) (bu : BusT) (k7 : Int32 → MOT → ComingT → Option (MOT × ComingT)) (v1 : Int32) (z0 : MOT) (z2 : ComingT) : Option (MOT × ComingT) := f_X12_comes_b60 y_w bu k7 v1 (mo_set_comers z0 ((mo_comers z0) + (1 : Int32))) z2
noncomputable def f_X12_comes_b7 (y_w : WT) (bu : BusT) : Nat → Int32 → MOT → ComingT → Option (MOT × ComingT)
  | 0, _, _, _ => none
  | n + 1, v1, z0, z2 => (if (bu_riders bu) ≤ v1 then some (z0, z2) else if kb_in? v1 8 then if kb_in? (52 : Int32) 56 then (if ((bu_on bu) (v1).toNatClampNeg) = ((yW_r y_w) ((52 : Int32)).toNatClampNeg) then if kb_in? (mo_comers z0) 8 then f_X12_comes_b50 y_w bu (f_X12_comes_b7 y_w bu n) v1 z0 (yComing_set_r z2 (upd (yComing_r z2) ((mo_comers z0)).toNatClampNeg v1)) else none else f_X12_comes_b60 y_w bu (f_X12_comes_b7 y_w bu n) v1 z0 z2) else none else none)
noncomputable def f_X12_comes_b5 (y_w : WT) (bu : BusT) (z0 : MOT) (z2 : ComingT) : Option (MOT × ComingT) := f_X12_comes_b7 y_w bu 4096 (0 : Int32) z0 z2
noncomputable def f_X12_comes (mo : MOT) (y_w : WT) (y_coming : ComingT) (bu : BusT) : Option (MOT × ComingT) := f_X12_comes_b5 y_w bu (mo_set_comers mo (0 : Int32)) y_coming
set_option maxHeartbeats 4000000 in
set_option maxRecDepth 100000 in
theorem c_X12_comes (l : Launch) (D : va_G) (dA : Nat → ClassId) (sz : Nat) (a : Nat → Nat) (wa : Nat → Nat) (na : Nat → Nat) (ba : Nat → Nat) (q1 : Option Nat) (g2 : Nat) (g3 : Nat) (g4 : Nat) (g5 : Nat) (g7 : Nat) (g8 : Nat) (g9 : Nat) (g11 : Nat) (g12 : Nat) (g13 : Nat) (g14 : Nat) (g15 : Nat) (g16 : Nat) (g17 : Nat) (g18 : Nat) (mo : MOT) (y_w : WT) (y_coming : ComingT) (bu : BusT) (u0 : MOT) (u2 : ComingT) (hf : f_X12_comes mo y_w y_coming bu = some (u0, u2)) : kb_Mv l yX12_comes cX12_comes 2 none ({ frames := 0, cells := 0, slots := 0, locals := 0 } : Room) D dA [.ref (a 0)] sz (w_MO dA a (some (ba 0)) q1 g2 g3 g4 g5 (wa 0) g7 g8 g9 (na 0) g11 g12 g13 g14 g15 g16 g17 g18 mo ++ (w_W dA wa y_w ++ (w_Coming dA na y_coming ++ (w_Bus dA ba bu)))) 0 0 (w_MO dA a (some (ba 0)) q1 g2 g3 g4 g5 (wa 0) g7 g8 g9 (na 0) g11 g12 g13 g14 g15 g16 g17 g18 u0 ++ (w_W dA wa y_w ++ (w_Coming dA na u2 ++ (w_Bus dA ba bu)))) := by
  refine Met.ofW (cc := cX12_comes) (maxL := 2) (ret := none) (by decide) rfl ?_
  intro p e s m args below meth c s₁ B hml hv
  obtain ⟨rfl, hsz, hP, hK, hD0, hE⟩ := hv
  have hx := B.exec
  have hb := B.bytes
  have hr := B.returns
  have hown : s.vm.findClass RX12 = some m.cls := findClass_of_methodNamed B.named
  have hlocks := B.notSynchronized
  have hts : ∀ w ∈ kb_gw, w.before ([.ref (a 0)] : List Value).toArray s = true := fun w hw => hK.2.1 w hw _
  subst hsz
  have hD := hD0.self (sz := s.heap.size)
  generalize hAe : va_A (w_MO dA a (some (ba 0)) q1 g2 g3 g4 g5 (wa 0) g7 g8 g9 (na 0) g11 g12 g13 g14 g15 g16 g17 g18 mo ++ (w_W dA wa y_w ++ (w_Coming dA na y_coming ++ (w_Bus dA ba bu)))) s.heap.size = A at hD hE ⊢
  have hA : ∀ q : Nat, s.heap.size ≤ q → A q := fun q h => by rw [← hAe]; exact Or.inr h
  have hS : va_S A s.heap s.heap [] := va_S.rf
  have hl := lv_entry ([.ref (a 0)]) (n := 2) (Nat.le_of_ble_eq_true rfl)
  rw [lg_entry_eq]
  generalize (lg_sl ([.ref (a 0)]) ++ List.replicate (2 - (lg_sl ([.ref (a 0)])).length) Slot.unset).toArray = ls at hl ⊢
  have hl : lv_has ls 2 [(0, .ref (a 0))] := hl
  generalize hQ : MQ below (va_Qv (fun (_ : Unit) => True) (kb_B D A (w_MO dA a (some (ba 0)) q1 g2 g3 g4 g5 (wa 0) g7 g8 g9 (na 0) g11 g12 g13 g14 g15 g16 g17 g18 u0 ++ (w_W dA wa y_w ++ (w_Coming dA na u2 ++ (w_Bus dA ba bu))))) A) ([.ref (a 0)] : List Value).toArray s 0 0 A = Q
  show W p l e ({ frames := 0, cells := 0, slots := 0, locals := 0 } : Room) s m ([.ref (a 0)] : List Value).toArray below meth c s.heap [] 0 0 Q (F0 m 0 ls [])
  have RET : ∀ (w0 : MOT) (w2 : ComingT) (H : Heap) (locs : List Loc) (ls : Array Slot) (pc : Nat), some (w0, w2) = some (u0, u2) → va_P D vwCl (w_MO dA a (some (ba 0)) q1 g2 g3 g4 g5 (wa 0) g7 g8 g9 (na 0) g11 g12 g13 g14 g15 g16 g17 g18 w0 ++ (w_W dA wa y_w ++ (w_Coming dA na w2 ++ (w_Bus dA ba bu)))) H → va_D A (w_MO dA a (some (ba 0)) q1 g2 g3 g4 g5 (wa 0) g7 g8 g9 (na 0) g11 g12 g13 g14 g15 g16 g17 g18 w0 ++ (w_W dA wa y_w ++ (w_Coming dA na w2 ++ (w_Bus dA ba bu)))) → va_S A s.heap H locs → decode cX12_comes pc = .ok (.return_, 1) → W p l e ({ frames := 0, cells := 0, slots := 0, locals := 0 } : Room) s m ([.ref (a 0)] : List Value).toArray below meth c H locs 0 0 Q (F0 m pc ls []) := by
    intro w0 w2 H locs ls pc hq hP hD hS hd
    cases hq
    rw [← hQ]
    exact W.vret hx hb hr (fun t ht hW => ⟨⟨(), rfl, trivial, by rw [ht]; exact hP, hD⟩, hS.F ht⟩) hS.2.2 hd
  have B_60 : ∀ (k7 : Int32 → MOT → ComingT → Option (MOT × ComingT)) (hk7 : ∀ (v1 : Int32) (z0 : MOT) (z2 : ComingT) (H : Heap) (locs : List Loc) (ls : Array Slot), k7 v1 z0 z2 = some (u0, u2) → va_P D vwCl (w_MO dA a (some (ba 0)) q1 g2 g3 g4 g5 (wa 0) g7 g8 g9 (na 0) g11 g12 g13 g14 g15 g16 g17 g18 z0 ++ (w_W dA wa y_w ++ (w_Coming dA na z2 ++ (w_Bus dA ba bu)))) H → va_D A (w_MO dA a (some (ba 0)) q1 g2 g3 g4 g5 (wa 0) g7 g8 g9 (na 0) g11 g12 g13 g14 g15 g16 g17 g18 z0 ++ (w_W dA wa y_w ++ (w_Coming dA na z2 ++ (w_Bus dA ba bu)))) → va_S A s.heap H locs → lv_has ls 2 [(0, .ref (a 0)), (1, .int v1)] → W p l e ({ frames := 0, cells := 0, slots := 0, locals := 0 } : Room) s m ([.ref (a 0)] : List Value).toArray below meth c H locs 0 0 Q (F0 m 7 ls [])) (v1 : Int32) (z0 : MOT) (z2 : ComingT) (H : Heap) (locs : List Loc) (ls : Array Slot), f_X12_comes_b60 y_w bu k7 v1 z0 z2 = some (u0, u2) → va_P D vwCl (w_MO dA a (some (ba 0)) q1 g2 g3 g4 g5 (wa 0) g7 g8 g9 (na 0) g11 g12 g13 g14 g15 g16 g17 g18 z0 ++ (w_W dA wa y_w ++ (w_Coming dA na z2 ++ (w_Bus dA ba bu)))) H → va_D A (w_MO dA a (some (ba 0)) q1 g2 g3 g4 g5 (wa 0) g7 g8 g9 (na 0) g11 g12 g13 g14 g15 g16 g17 g18 z0 ++ (w_W dA wa y_w ++ (w_Coming dA na z2 ++ (w_Bus dA ba bu)))) → va_S A s.heap H locs → lv_has ls 2 [(0, .ref (a 0)), (1, .int v1)] → W p l e ({ frames := 0, cells := 0, slots := 0, locals := 0 } : Room) s m ([.ref (a 0)] : List Value).toArray below meth c H locs 0 0 Q (F0 m 60 ls []) := by
    intro k7 hk7 v1 z0 z2 H locs ls hf hP hD hS hl
    rw [f_X12_comes_b60] at hf
    refine lv_iinc (v := (v1 + (1 : Int32))) (lv' := [(1, .int (v1 + (1 : Int32))), (0, .ref (a 0))]) hx hb dX12_comes_60 hl (k := 1) rfl (by rfl) (by decide) rfl (fun ls hl => ?_)
    refine lv_goto (tgt := 7) hx hb dX12_comes_63 (by decide) ?_
    exact hk7 _ _ _ _ _ _ hf hP hD hS (lv_sub hl [1, 0] rfl)
  have B_50 : ∀ (k7 : Int32 → MOT → ComingT → Option (MOT × ComingT)) (hk7 : ∀ (v1 : Int32) (z0 : MOT) (z2 : ComingT) (H : Heap) (locs : List Loc) (ls : Array Slot), k7 v1 z0 z2 = some (u0, u2) → va_P D vwCl (w_MO dA a (some (ba 0)) q1 g2 g3 g4 g5 (wa 0) g7 g8 g9 (na 0) g11 g12 g13 g14 g15 g16 g17 g18 z0 ++ (w_W dA wa y_w ++ (w_Coming dA na z2 ++ (w_Bus dA ba bu)))) H → va_D A (w_MO dA a (some (ba 0)) q1 g2 g3 g4 g5 (wa 0) g7 g8 g9 (na 0) g11 g12 g13 g14 g15 g16 g17 g18 z0 ++ (w_W dA wa y_w ++ (w_Coming dA na z2 ++ (w_Bus dA ba bu)))) → va_S A s.heap H locs → lv_has ls 2 [(0, .ref (a 0)), (1, .int v1)] → W p l e ({ frames := 0, cells := 0, slots := 0, locals := 0 } : Room) s m ([.ref (a 0)] : List Value).toArray below meth c H locs 0 0 Q (F0 m 7 ls [])) (v1 : Int32) (z0 : MOT) (z2 : ComingT) (H : Heap) (locs : List Loc) (ls : Array Slot), f_X12_comes_b50 y_w bu k7 v1 z0 z2 = some (u0, u2) → va_P D vwCl (w_MO dA a (some (ba 0)) q1 g2 g3 g4 g5 (wa 0) g7 g8 g9 (na 0) g11 g12 g13 g14 g15 g16 g17 g18 z0 ++ (w_W dA wa y_w ++ (w_Coming dA na z2 ++ (w_Bus dA ba bu)))) H → va_D A (w_MO dA a (some (ba 0)) q1 g2 g3 g4 g5 (wa 0) g7 g8 g9 (na 0) g11 g12 g13 g14 g15 g16 g17 g18 z0 ++ (w_W dA wa y_w ++ (w_Coming dA na z2 ++ (w_Bus dA ba bu)))) → va_S A s.heap H locs → lv_has ls 2 [(0, .ref (a 0)), (1, .int v1)] → W p l e ({ frames := 0, cells := 0, slots := 0, locals := 0 } : Room) s m ([.ref (a 0)] : List Value).toArray below meth c H locs 0 0 Q (F0 m 50 ls []) := by
    intro k7 hk7 v1 z0 z2 H locs ls hf hP hD hS hl
    rw [f_X12_comes_b50] at hf
    refine lv_aload_n hx hb dX12_comes_50 rfl (lv_at hl 0 rfl) ?_
    refine lv_dup hx hb dX12_comes_51 rfl ?_
    refine va_get (D := D) (ci := 12) (v := .int (mo_comers z0)) (C := RX12) (T := TX12) (N := 35) hx hb hts kb_inX12 hown hK.1 hP 0 rfl rfl 25 (by decide) (hK.2.w ww_5_225 rfl _) (fun _ h9 => h9) rfl dX12_comes_52 ?_
    refine lv_iconst (v := (1 : Int32)) hx hb dX12_comes_55 (by decide) ?_
    refine lv_iadd hx hb dX12_comes_56 ?_
    refine va_put (D := D) (ci := 12) (v := .int ((mo_comers z0) + (1 : Int32))) (ty := .int) (C := RX12) (T := TX12) (N := 35) hx hb hts kb_inX12 tyX12 tyX12_ok nmX12 hown hK.1 hP hD hS 0 rfl rfl 25 (by decide) (hK.2.w ww_5_225 rfl _) (fun _ h9 => h9) rfl (by decide +kernel) rfl rfl (Nat.le_of_ble_eq_true rfl) dX12_comes_57 (fun H locs hP hD hS => ?_)
    have hP : va_P D vwCl (w_MO dA a (some (ba 0)) q1 g2 g3 g4 g5 (wa 0) g7 g8 g9 (na 0) g11 g12 g13 g14 g15 g16 g17 g18 (mo_set_comers z0 ((mo_comers z0) + (1 : Int32))) ++ (w_W dA wa y_w ++ (w_Coming dA na z2 ++ (w_Bus dA ba bu)))) H := hP
    have hD : va_D A (w_MO dA a (some (ba 0)) q1 g2 g3 g4 g5 (wa 0) g7 g8 g9 (na 0) g11 g12 g13 g14 g15 g16 g17 g18 (mo_set_comers z0 ((mo_comers z0) + (1 : Int32))) ++ (w_W dA wa y_w ++ (w_Coming dA na z2 ++ (w_Bus dA ba bu)))) := hD
    exact B_60 k7 hk7 _ _ _ _ _ _ hf hP hD hS (lv_sub hl [0, 1] rfl)
  have B_7 : ∀ (n : Nat) (v1 : Int32) (z0 : MOT) (z2 : ComingT) (H : Heap) (locs : List Loc) (ls : Array Slot), f_X12_comes_b7 y_w bu n v1 z0 z2 = some (u0, u2) → va_P D vwCl (w_MO dA a (some (ba 0)) q1 g2 g3 g4 g5 (wa 0) g7 g8 g9 (na 0) g11 g12 g13 g14 g15 g16 g17 g18 z0 ++ (w_W dA wa y_w ++ (w_Coming dA na z2 ++ (w_Bus dA ba bu)))) H → va_D A (w_MO dA a (some (ba 0)) q1 g2 g3 g4 g5 (wa 0) g7 g8 g9 (na 0) g11 g12 g13 g14 g15 g16 g17 g18 z0 ++ (w_W dA wa y_w ++ (w_Coming dA na z2 ++ (w_Bus dA ba bu)))) → va_S A s.heap H locs → lv_has ls 2 [(0, .ref (a 0)), (1, .int v1)] → W p l e ({ frames := 0, cells := 0, slots := 0, locals := 0 } : Room) s m ([.ref (a 0)] : List Value).toArray below meth c H locs 0 0 Q (F0 m 7 ls []) := by
    intro n
    induction n with
    | zero =>
      intro v1 z0 z2 H locs ls hf
      exact absurd hf (by simp [f_X12_comes_b7])
    | succ n ih =>
      intro v1 z0 z2 H locs ls hf hP hD hS hl
      rw [f_X12_comes_b7] at hf
      refine lv_iload_n hx hb dX12_comes_7 rfl (lv_at hl 1 rfl) ?_
      refine lv_aload_n hx hb dX12_comes_8 rfl (lv_at hl 0 rfl) ?_
      refine va_get (D := D) (ci := 12) (v := .ref (ba 0)) (C := RX12) (T := TX12) (N := 35) hx hb hts kb_inX12 hown hK.1 hP 0 rfl rfl 3 (by decide) (hK.2.w ww_5_203 rfl _) (fun _ h9 => h9) rfl dX12_comes_9 ?_
      refine va_getN (D := D) (ci := 11) (v := .int (bu_riders bu)) (C := RX11) (T := TX11) (N := 26) hx hb hts kb_inX11 hown hK.1 hP 3 rfl rfl 7 (by decide) (hK.2.nb ww_6_96 rfl rfl _) (fun _ h9 => h9) rfl dX12_comes_12 ?_
      refine lv_icmp_ge (tgt := 66) hx hb dX12_comes_15 (by decide) (fun c_1 => ?_) (fun c_1 => ?_)
      · rw [if_pos c_1] at hf
        exact RET _ _ H _ ls 66 hf hP hD hS dX12_comes_66
      · rw [if_neg c_1] at hf
        refine lv_aload_n hx hb dX12_comes_18 rfl (lv_at hl 0 rfl) ?_
        refine va_get (D := D) (ci := 12) (v := .ref (ba 0)) (C := RX12) (T := TX12) (N := 35) hx hb hts kb_inX12 hown hK.1 hP 0 rfl rfl 3 (by decide) (hK.2.w ww_5_203 rfl _) (fun _ h9 => h9) rfl dX12_comes_19 ?_
        refine va_getN (D := D) (ci := 11) (v := .ref (ba 3)) (C := RX11) (T := TX11) (N := 26) hx hb hts kb_inX11 hown hK.1 hP 3 rfl rfl 13 (by decide) (hK.2.nb ww_6_107 rfl rfl _) (fun _ h9 => h9) rfl dX12_comes_22 ?_
        refine lv_iload_n hx hb dX12_comes_25 rfl (lv_at hl 1 rfl) ?_
        obtain ⟨h_2, hf⟩ := kb_if hf
        refine va_iald (D := D) hx hb hK.1 hP 6 0 rfl rfl h_2 dX12_comes_26 ?_
        refine lv_aload_n hx hb dX12_comes_27 rfl (lv_at hl 0 rfl) ?_
        refine va_get (D := D) (ci := 12) (v := .ref (wa 0)) (C := RX12) (T := TX12) (N := 35) hx hb hts kb_inX12 hown hK.1 hP 0 rfl rfl 19 (by decide) (hK.2.w ww_5_219 rfl _) (fun _ h9 => h9) rfl dX12_comes_28 ?_
        refine lv_bipush (v := (52 : Int32)) hx hb dX12_comes_31 (by decide) ?_
        obtain ⟨h_3, hf⟩ := kb_if hf
        refine va_iald (D := D) hx hb hK.1 hP 1 0 rfl rfl h_3 dX12_comes_33 ?_
        refine lv_icmp_eq (tgt := 40) hx hb dX12_comes_34 (by decide) (fun c_4 => ?_) (fun c_4 => ?_)
        · rw [if_pos c_4] at hf
          refine lv_aload_n hx hb dX12_comes_40 rfl (lv_at hl 0 rfl) ?_
          refine va_get (D := D) (ci := 12) (v := .ref (na 0)) (C := RX12) (T := TX12) (N := 35) hx hb hts kb_inX12 hown hK.1 hP 0 rfl rfl 24 (by decide) (hK.2.w ww_5_224 rfl _) (fun _ h9 => h9) rfl dX12_comes_41 ?_
          refine lv_aload_n hx hb dX12_comes_44 rfl (lv_at hl 0 rfl) ?_
          refine va_get (D := D) (ci := 12) (v := .int (mo_comers z0)) (C := RX12) (T := TX12) (N := 35) hx hb hts kb_inX12 hown hK.1 hP 0 rfl rfl 25 (by decide) (hK.2.w ww_5_225 rfl _) (fun _ h9 => h9) rfl dX12_comes_45 ?_
          refine lv_iload_n hx hb dX12_comes_48 rfl (lv_at hl 1 rfl) ?_
          obtain ⟨h_5, hf⟩ := kb_if hf
          refine va_iast (D := D) hx hb hK.1 hP hD hS 2 0 rfl rfl h_5 dX12_comes_49 (fun H locs hP hD hS => ?_)
          have hP : va_P D vwCl (w_MO dA a (some (ba 0)) q1 g2 g3 g4 g5 (wa 0) g7 g8 g9 (na 0) g11 g12 g13 g14 g15 g16 g17 g18 z0 ++ (w_W dA wa y_w ++ (w_Coming dA na (yComing_set_r z2 (upd (yComing_r z2) ((mo_comers z0)).toNatClampNeg v1)) ++ (w_Bus dA ba bu)))) H := hP
          have hD : va_D A (w_MO dA a (some (ba 0)) q1 g2 g3 g4 g5 (wa 0) g7 g8 g9 (na 0) g11 g12 g13 g14 g15 g16 g17 g18 z0 ++ (w_W dA wa y_w ++ (w_Coming dA na (yComing_set_r z2 (upd (yComing_r z2) ((mo_comers z0)).toNatClampNeg v1)) ++ (w_Bus dA ba bu)))) := hD
          exact B_50 (f_X12_comes_b7 y_w bu n) ih _ _ _ _ _ _ hf hP hD hS (lv_sub hl [0, 1] rfl)
        · rw [if_neg c_4] at hf
          refine lv_goto (tgt := 60) hx hb dX12_comes_37 (by decide) ?_
          exact B_60 (f_X12_comes_b7 y_w bu n) ih _ _ _ _ _ _ hf hP hD hS (lv_sub hl [0, 1] rfl)
  have B_5 : ∀ (z0 : MOT) (z2 : ComingT) (H : Heap) (locs : List Loc) (ls : Array Slot), f_X12_comes_b5 y_w bu z0 z2 = some (u0, u2) → va_P D vwCl (w_MO dA a (some (ba 0)) q1 g2 g3 g4 g5 (wa 0) g7 g8 g9 (na 0) g11 g12 g13 g14 g15 g16 g17 g18 z0 ++ (w_W dA wa y_w ++ (w_Coming dA na z2 ++ (w_Bus dA ba bu)))) H → va_D A (w_MO dA a (some (ba 0)) q1 g2 g3 g4 g5 (wa 0) g7 g8 g9 (na 0) g11 g12 g13 g14 g15 g16 g17 g18 z0 ++ (w_W dA wa y_w ++ (w_Coming dA na z2 ++ (w_Bus dA ba bu)))) → va_S A s.heap H locs → lv_has ls 2 [(0, .ref (a 0))] → W p l e ({ frames := 0, cells := 0, slots := 0, locals := 0 } : Room) s m ([.ref (a 0)] : List Value).toArray below meth c H locs 0 0 Q (F0 m 5 ls []) := by
    intro z0 z2 H locs ls hf hP hD hS hl
    rw [f_X12_comes_b5] at hf
    refine lv_iconst (v := (0 : Int32)) hx hb dX12_comes_5 (by decide) ?_
    refine lv_istore_n (lv' := [(1, .int (0 : Int32)), (0, .ref (a 0))]) hx hb dX12_comes_6 rfl hl (by decide) rfl (fun ls hl => ?_)
    exact B_7 4096 _ _ _ _ _ _ hf hP hD hS (lv_sub hl [1, 0] rfl)
  have E0 : ∀ (H : Heap) (locs : List Loc), va_P D vwCl (w_MO dA a (some (ba 0)) q1 g2 g3 g4 g5 (wa 0) g7 g8 g9 (na 0) g11 g12 g13 g14 g15 g16 g17 g18 mo ++ (w_W dA wa y_w ++ (w_Coming dA na y_coming ++ (w_Bus dA ba bu)))) H → va_D A (w_MO dA a (some (ba 0)) q1 g2 g3 g4 g5 (wa 0) g7 g8 g9 (na 0) g11 g12 g13 g14 g15 g16 g17 g18 mo ++ (w_W dA wa y_w ++ (w_Coming dA na y_coming ++ (w_Bus dA ba bu)))) → va_S A s.heap H locs → W p l e ({ frames := 0, cells := 0, slots := 0, locals := 0 } : Room) s m ([.ref (a 0)] : List Value).toArray below meth c H locs 0 0 Q (F0 m 0 ls []) := by
    intro H locs hP hD hS
    rw [f_X12_comes] at hf
    refine lv_aload_n hx hb dX12_comes_0 rfl (lv_at hl 0 rfl) ?_
    refine lv_iconst (v := (0 : Int32)) hx hb dX12_comes_1 (by decide) ?_
    refine va_put (D := D) (ci := 12) (v := .int (0 : Int32)) (ty := .int) (C := RX12) (T := TX12) (N := 35) hx hb hts kb_inX12 tyX12 tyX12_ok nmX12 hown hK.1 hP hD hS 0 rfl rfl 25 (by decide) (hK.2.w ww_5_225 rfl _) (fun _ h9 => h9) rfl (by decide +kernel) rfl rfl (Nat.le_of_ble_eq_true rfl) dX12_comes_2 (fun H locs hP hD hS => ?_)
    have hP : va_P D vwCl (w_MO dA a (some (ba 0)) q1 g2 g3 g4 g5 (wa 0) g7 g8 g9 (na 0) g11 g12 g13 g14 g15 g16 g17 g18 (mo_set_comers mo (0 : Int32)) ++ (w_W dA wa y_w ++ (w_Coming dA na y_coming ++ (w_Bus dA ba bu)))) H := hP
    have hD : va_D A (w_MO dA a (some (ba 0)) q1 g2 g3 g4 g5 (wa 0) g7 g8 g9 (na 0) g11 g12 g13 g14 g15 g16 g17 g18 (mo_set_comers mo (0 : Int32)) ++ (w_W dA wa y_w ++ (w_Coming dA na y_coming ++ (w_Bus dA ba bu)))) := hD
    exact B_5 _ _ _ _ _ hf hP hD hS (lv_sub hl [0] rfl)
  exact E0 _ _ hP hD hS

noncomputable def f_X12_opens_b144 (mo : MOT) (y_w : WT) (y_looks : LooksT) (y_coming : ComingT) (bu : BusT) (z3 : WhoT) (z4 : LookT) (z6 : AheadT) (z7 : LeftT) (z8 : PartT) : Option (WhoT × LookT × AheadT × LeftT × PartT) := some (z3, z4, z6, z7, z8)
noncomputable def f_X12_opens_b124 (mo : MOT) (y_w : WT) (y_looks : LooksT) (y_coming : ComingT) (bu : BusT) (v1 : Int32) (z3 : WhoT) (z4 : LookT) (z6 : AheadT) (z7 : LeftT) (z8 : PartT) : Option (WhoT × LookT × AheadT × LeftT × PartT) := if kb_in? v1 4 then (f_X12_bits ((yLeft_r z7) (v1).toNatClampNeg)).bind fun r11 => if ¬ r11 = 0 then if kb_in? v1 4 then f_X12_opens_b144 mo y_w y_looks y_coming bu z3 z4 z6 z7 (yPart_set_r z8 (vp_updL (yPart_r z8) (v1).toNatClampNeg (((27720 : Int32) / r11)).toInt64)) else none else none else none
noncomputable def f_X12_opens_b123 (mo : MOT) (y_w : WT) (y_looks : LooksT) (y_coming : ComingT) (bu : BusT) (v1 : Int32) (s0 : Int32) (s1 : Int32) (z3 : WhoT) (z4 : LookT) (z6 : AheadT) (z7 : LeftT) (z8 : PartT) : Option (WhoT × LookT × AheadT × LeftT × PartT) := if kb_in? s1 4 then f_X12_opens_b124 mo y_w y_looks y_coming bu v1 z3 z4 z6 (yLeft_set_r z7 (upd (yLeft_r z7) (s1).toNatClampNeg s0)) z8 else none
noncomputable def f_X12_opens_b66 (mo : MOT) (y_w : WT) (y_looks : LooksT) (y_coming : ComingT) (bu : BusT) : Nat → Int32 → Int32 → Int32 → Int32 → WhoT → LookT → AheadT → LeftT → PartT → Option (WhoT × LookT × AheadT × LeftT × PartT)
  | 0, _, _, _, _, _, _, _, _, _ => none
  | n + 1, v1, v2, v3, v4, z3, z4, z6, z7, z8 => (if (20 : Int32) ≤ v3 then (if v2 = 0 then f_X12_opens_b123 mo y_w y_looks y_coming bu v1 (1048576 : Int32) v1 z3 z4 z6 z7 z8 else f_X12_opens_b123 mo y_w y_looks y_coming bu v1 v2 v1 z3 z4 z6 z7 z8) else (f_X12_has v2 v3).bind fun r14 => (if r14 = 0 then f_X12_opens_b66 mo y_w y_looks y_coming bu n v1 v2 (v3 + (1 : Int32)) v4 z3 z4 z6 z7 z8 else (if (v4 + (1 : Int32)) ≤ (12 : Int32) then f_X12_opens_b66 mo y_w y_looks y_coming bu n v1 v2 (v3 + (1 : Int32)) (v4 + (1 : Int32)) z3 z4 z6 z7 z8 else f_X12_opens_b66 mo y_w y_looks y_coming bu n v1 (v2 &&& (((1 : Int32) <<< (v3 &&& 31)) ^^^ (-1 : Int32))) (v3 + (1 : Int32)) (v4 + (1 : Int32)) z3 z4 z6 z7 z8)))
noncomputable def f_X12_opens_b60 (mo : MOT) (y_w : WT) (y_looks : LooksT) (y_coming : ComingT) (bu : BusT) (v1 : Int32) (s0 : Int32) (z3 : WhoT) (z4 : LookT) (z6 : AheadT) (z7 : LeftT) (z8 : PartT) : Option (WhoT × LookT × AheadT × LeftT × PartT) := f_X12_opens_b66 mo y_w y_looks y_coming bu 4096 v1 s0 (0 : Int32) (0 : Int32) z3 z4 z6 z7 z8
noncomputable def f_X12_opens_b25 (mo : MOT) (y_w : WT) (y_looks : LooksT) (y_coming : ComingT) (bu : BusT) (k2 : Int32 → Int32 → WhoT → LookT → AheadT → LeftT → PartT → Option (WhoT × LookT × AheadT × LeftT × PartT)) (v1 : Int32) (v2 : Int32) (z3 : WhoT) (z4 : LookT) (z6 : AheadT) (z7 : LeftT) (z8 : PartT) : Option (WhoT × LookT × AheadT × LeftT × PartT) := k2 v1 (v2 + (1 : Int32)) z3 z4 z6 z7 z8
noncomputable def f_X12_opens_b2 (mo : MOT) (y_w : WT) (y_looks : LooksT) (y_coming : ComingT) (bu : BusT) : Nat → Int32 → Int32 → WhoT → LookT → AheadT → LeftT → PartT → Option (WhoT × LookT × AheadT × LeftT × PartT)
  | 0, _, _, _, _, _, _, _ => none
  | n + 1, v1, v2, z3, z4, z6, z7, z8 => (if (56 : Int32) ≤ v2 then if kb_in? v1 8 then (f_X12_chosen mo y_w y_looks z3 z4 bu ((yComing_r y_coming) (v1).toNatClampNeg)).bind fun r3 => (if r3.1 = (-2 : Int32) then f_X12_opens_b60 mo y_w y_looks y_coming bu v1 (0 : Int32) r3.2.1 r3.2.2 z6 z7 z8 else if kb_in? v1 8 then (f_X12_mightChoose mo y_w y_looks r3.2.1 r3.2.2 bu ((yComing_r y_coming) (v1).toNatClampNeg)).bind fun r6 => f_X12_opens_b60 mo y_w y_looks y_coming bu v1 r6.1 r6.2.1 r6.2.2 z6 z7 z8 else none) else none else if kb_in? v2 56 then if kb_in? (((56 : Int32) * v1) + v2) 224 then f_X12_opens_b25 mo y_w y_looks y_coming bu (f_X12_opens_b2 mo y_w y_looks y_coming bu n) v1 v2 z3 z4 (yAhead_set_r z6 (upd (yAhead_r z6) ((((56 : Int32) * v1) + v2)).toNatClampNeg ((yW_r y_w) (v2).toNatClampNeg))) z7 z8 else none else none)
noncomputable def f_X12_opens (mo : MOT) (y_w : WT) (y_looks : LooksT) (y_who : WhoT) (y_look : LookT) (y_coming : ComingT) (y_ahead : AheadT) (y_left : LeftT) (y_part : PartT) (bu : BusT) (x0 : Int32) : Option (WhoT × LookT × AheadT × LeftT × PartT) := f_X12_opens_b2 mo y_w y_looks y_coming bu 4096 x0 (0 : Int32) y_who y_look y_ahead y_left y_part
set_option maxHeartbeats 4000000 in
set_option maxRecDepth 100000 in
theorem c_X12_opens (l : Launch) (D : va_G) (dA : Nat → ClassId) (sz : Nat) (a : Nat → Nat) (wa : Nat → Nat) (la : Nat → Nat) (ha : Nat → Nat) (ca : Nat → Nat) (na : Nat → Nat) (da : Nat → Nat) (fa : Nat → Nat) (ra : Nat → Nat) (ba : Nat → Nat) (q1 : Option Nat) (g2 : Nat) (g3 : Nat) (g4 : Nat) (g5 : Nat) (g13 : Nat) (g15 : Nat) (g16 : Nat) (g17 : Nat) (g18 : Nat) (mo : MOT) (y_w : WT) (y_looks : LooksT) (y_who : WhoT) (y_look : LookT) (y_coming : ComingT) (y_ahead : AheadT) (y_left : LeftT) (y_part : PartT) (bu : BusT) (x0 : Int32) (u3 : WhoT) (u4 : LookT) (u6 : AheadT) (u7 : LeftT) (u8 : PartT) (hf : f_X12_opens mo y_w y_looks y_who y_look y_coming y_ahead y_left y_part bu x0 = some (u3, u4, u6, u7, u8)) : kb_Mv l yX12_opens cX12_opens 5 none ({ frames := 7, cells := 0, slots := 0, locals := 167 } : Room) D dA [.ref (a 0), .int x0] sz (w_MO dA a (some (ba 0)) q1 g2 g3 g4 g5 (wa 0) (la 0) (ha 0) (ca 0) (na 0) (da 0) (fa 0) g13 (ra 0) g15 g16 g17 g18 mo ++ (w_W dA wa y_w ++ (w_Looks dA la y_looks ++ (w_Who dA ha y_who ++ (w_Look dA ca y_look ++ (w_Coming dA na y_coming ++ (w_Ahead dA da y_ahead ++ (w_Left dA fa y_left ++ (w_Part dA ra y_part ++ (w_Bus dA ba bu)))))))))) 0 0 (w_MO dA a (some (ba 0)) q1 g2 g3 g4 g5 (wa 0) (la 0) (ha 0) (ca 0) (na 0) (da 0) (fa 0) g13 (ra 0) g15 g16 g17 g18 mo ++ (w_W dA wa y_w ++ (w_Looks dA la y_looks ++ (w_Who dA ha u3 ++ (w_Look dA ca u4 ++ (w_Coming dA na y_coming ++ (w_Ahead dA da u6 ++ (w_Left dA fa u7 ++ (w_Part dA ra u8 ++ (w_Bus dA ba bu)))))))))) := by
  refine Met.ofW (cc := cX12_opens) (maxL := 5) (ret := none) (by decide) rfl ?_
  intro p e s m args below meth c s₁ B hml hv
  obtain ⟨rfl, hsz, hP, hK, hD0, hE⟩ := hv
  have hx := B.exec
  have hb := B.bytes
  have hr := B.returns
  have hown : s.vm.findClass RX12 = some m.cls := findClass_of_methodNamed B.named
  have hlocks := B.notSynchronized
  have hts : ∀ w ∈ kb_gw, w.before ([.ref (a 0), .int x0] : List Value).toArray s = true := fun w hw => hK.2.1 w hw _
  subst hsz
  have hD := hD0.self (sz := s.heap.size)
  generalize hAe : va_A (w_MO dA a (some (ba 0)) q1 g2 g3 g4 g5 (wa 0) (la 0) (ha 0) (ca 0) (na 0) (da 0) (fa 0) g13 (ra 0) g15 g16 g17 g18 mo ++ (w_W dA wa y_w ++ (w_Looks dA la y_looks ++ (w_Who dA ha y_who ++ (w_Look dA ca y_look ++ (w_Coming dA na y_coming ++ (w_Ahead dA da y_ahead ++ (w_Left dA fa y_left ++ (w_Part dA ra y_part ++ (w_Bus dA ba bu)))))))))) s.heap.size = A at hD hE ⊢
  have hA : ∀ q : Nat, s.heap.size ≤ q → A q := fun q h => by rw [← hAe]; exact Or.inr h
  have hS : va_S A s.heap s.heap [] := va_S.rf
  have hl := lv_entry ([.ref (a 0), .int x0]) (n := 5) (Nat.le_of_ble_eq_true rfl)
  rw [lg_entry_eq]
  generalize (lg_sl ([.ref (a 0), .int x0]) ++ List.replicate (5 - (lg_sl ([.ref (a 0), .int x0])).length) Slot.unset).toArray = ls at hl ⊢
  have hl : lv_has ls 5 [(0, .ref (a 0)), (1, .int x0)] := hl
  generalize hQ : MQ below (va_Qv (fun (_ : Unit) => True) (kb_B D A (w_MO dA a (some (ba 0)) q1 g2 g3 g4 g5 (wa 0) (la 0) (ha 0) (ca 0) (na 0) (da 0) (fa 0) g13 (ra 0) g15 g16 g17 g18 mo ++ (w_W dA wa y_w ++ (w_Looks dA la y_looks ++ (w_Who dA ha u3 ++ (w_Look dA ca u4 ++ (w_Coming dA na y_coming ++ (w_Ahead dA da u6 ++ (w_Left dA fa u7 ++ (w_Part dA ra u8 ++ (w_Bus dA ba bu))))))))))) A) ([.ref (a 0), .int x0] : List Value).toArray s 0 0 A = Q
  show W p l e ({ frames := 7, cells := 0, slots := 0, locals := 167 } : Room) s m ([.ref (a 0), .int x0] : List Value).toArray below meth c s.heap [] 0 0 Q (F0 m 0 ls [])
  have RET : ∀ (w3 : WhoT) (w4 : LookT) (w6 : AheadT) (w7 : LeftT) (w8 : PartT) (H : Heap) (locs : List Loc) (ls : Array Slot) (pc : Nat), some (w3, w4, w6, w7, w8) = some (u3, u4, u6, u7, u8) → va_P D vwCl (w_MO dA a (some (ba 0)) q1 g2 g3 g4 g5 (wa 0) (la 0) (ha 0) (ca 0) (na 0) (da 0) (fa 0) g13 (ra 0) g15 g16 g17 g18 mo ++ (w_W dA wa y_w ++ (w_Looks dA la y_looks ++ (w_Who dA ha w3 ++ (w_Look dA ca w4 ++ (w_Coming dA na y_coming ++ (w_Ahead dA da w6 ++ (w_Left dA fa w7 ++ (w_Part dA ra w8 ++ (w_Bus dA ba bu)))))))))) H → va_D A (w_MO dA a (some (ba 0)) q1 g2 g3 g4 g5 (wa 0) (la 0) (ha 0) (ca 0) (na 0) (da 0) (fa 0) g13 (ra 0) g15 g16 g17 g18 mo ++ (w_W dA wa y_w ++ (w_Looks dA la y_looks ++ (w_Who dA ha w3 ++ (w_Look dA ca w4 ++ (w_Coming dA na y_coming ++ (w_Ahead dA da w6 ++ (w_Left dA fa w7 ++ (w_Part dA ra w8 ++ (w_Bus dA ba bu)))))))))) → va_S A s.heap H locs → decode cX12_opens pc = .ok (.return_, 1) → W p l e ({ frames := 7, cells := 0, slots := 0, locals := 167 } : Room) s m ([.ref (a 0), .int x0] : List Value).toArray below meth c H locs 0 0 Q (F0 m pc ls []) := by
    intro w3 w4 w6 w7 w8 H locs ls pc hq hP hD hS hd
    cases hq
    rw [← hQ]
    exact W.vret hx hb hr (fun t ht hW => ⟨⟨(), rfl, trivial, by rw [ht]; exact hP, hD⟩, hS.F ht⟩) hS.2.2 hd
  have B_144 : ∀ (z3 : WhoT) (z4 : LookT) (z6 : AheadT) (z7 : LeftT) (z8 : PartT) (H : Heap) (locs : List Loc) (ls : Array Slot), f_X12_opens_b144 mo y_w y_looks y_coming bu z3 z4 z6 z7 z8 = some (u3, u4, u6, u7, u8) → va_P D vwCl (w_MO dA a (some (ba 0)) q1 g2 g3 g4 g5 (wa 0) (la 0) (ha 0) (ca 0) (na 0) (da 0) (fa 0) g13 (ra 0) g15 g16 g17 g18 mo ++ (w_W dA wa y_w ++ (w_Looks dA la y_looks ++ (w_Who dA ha z3 ++ (w_Look dA ca z4 ++ (w_Coming dA na y_coming ++ (w_Ahead dA da z6 ++ (w_Left dA fa z7 ++ (w_Part dA ra z8 ++ (w_Bus dA ba bu)))))))))) H → va_D A (w_MO dA a (some (ba 0)) q1 g2 g3 g4 g5 (wa 0) (la 0) (ha 0) (ca 0) (na 0) (da 0) (fa 0) g13 (ra 0) g15 g16 g17 g18 mo ++ (w_W dA wa y_w ++ (w_Looks dA la y_looks ++ (w_Who dA ha z3 ++ (w_Look dA ca z4 ++ (w_Coming dA na y_coming ++ (w_Ahead dA da z6 ++ (w_Left dA fa z7 ++ (w_Part dA ra z8 ++ (w_Bus dA ba bu)))))))))) → va_S A s.heap H locs → lv_has ls 5 [] → W p l e ({ frames := 7, cells := 0, slots := 0, locals := 167 } : Room) s m ([.ref (a 0), .int x0] : List Value).toArray below meth c H locs 0 0 Q (F0 m 144 ls []) := by
    intro z3 z4 z6 z7 z8 H locs ls hf hP hD hS hl
    rw [f_X12_opens_b144] at hf
    exact RET _ _ _ _ _ H _ ls 144 hf hP hD hS dX12_opens_144
  have B_124 : ∀ (v1 : Int32) (z3 : WhoT) (z4 : LookT) (z6 : AheadT) (z7 : LeftT) (z8 : PartT) (H : Heap) (locs : List Loc) (ls : Array Slot), f_X12_opens_b124 mo y_w y_looks y_coming bu v1 z3 z4 z6 z7 z8 = some (u3, u4, u6, u7, u8) → va_P D vwCl (w_MO dA a (some (ba 0)) q1 g2 g3 g4 g5 (wa 0) (la 0) (ha 0) (ca 0) (na 0) (da 0) (fa 0) g13 (ra 0) g15 g16 g17 g18 mo ++ (w_W dA wa y_w ++ (w_Looks dA la y_looks ++ (w_Who dA ha z3 ++ (w_Look dA ca z4 ++ (w_Coming dA na y_coming ++ (w_Ahead dA da z6 ++ (w_Left dA fa z7 ++ (w_Part dA ra z8 ++ (w_Bus dA ba bu)))))))))) H → va_D A (w_MO dA a (some (ba 0)) q1 g2 g3 g4 g5 (wa 0) (la 0) (ha 0) (ca 0) (na 0) (da 0) (fa 0) g13 (ra 0) g15 g16 g17 g18 mo ++ (w_W dA wa y_w ++ (w_Looks dA la y_looks ++ (w_Who dA ha z3 ++ (w_Look dA ca z4 ++ (w_Coming dA na y_coming ++ (w_Ahead dA da z6 ++ (w_Left dA fa z7 ++ (w_Part dA ra z8 ++ (w_Bus dA ba bu)))))))))) → va_S A s.heap H locs → lv_has ls 5 [(0, .ref (a 0)), (1, .int v1)] → W p l e ({ frames := 7, cells := 0, slots := 0, locals := 167 } : Room) s m ([.ref (a 0), .int x0] : List Value).toArray below meth c H locs 0 0 Q (F0 m 124 ls []) := by
    intro v1 z3 z4 z6 z7 z8 H locs ls hf hP hD hS hl
    rw [f_X12_opens_b124] at hf
    refine lv_aload_n hx hb dX12_opens_124 rfl (lv_at hl 0 rfl) ?_
    refine va_get (D := D) (ci := 12) (v := .ref (ra 0)) (C := RX12) (T := TX12) (N := 35) hx hb hts kb_inX12 hown hK.1 hP 0 rfl rfl 29 (by decide) (hK.2.w ww_5_229 rfl _) (fun _ h9 => h9) rfl dX12_opens_125 ?_
    refine lv_iload_n hx hb dX12_opens_128 rfl (lv_at hl 1 rfl) ?_
    refine lv_sipush (v := (27720 : Int32)) hx hb dX12_opens_129 (by decide) ?_
    refine lv_aload_n hx hb dX12_opens_132 rfl (lv_at hl 0 rfl) ?_
    refine va_get (D := D) (ci := 12) (v := .ref (fa 0)) (C := RX12) (T := TX12) (N := 35) hx hb hts kb_inX12 hown hK.1 hP 0 rfl rfl 27 (by decide) (hK.2.w ww_5_227 rfl _) (fun _ h9 => h9) rfl dX12_opens_133 ?_
    refine lv_iload_n hx hb dX12_opens_136 rfl (lv_at hl 1 rfl) ?_
    obtain ⟨h_10, hf⟩ := kb_if hf
    refine va_iald (D := D) hx hb hK.1 hP 7 0 rfl rfl h_10 dX12_opens_137 ?_
    obtain ⟨r11, hc11, hf⟩ := kb_bind hf
    refine kb_ci (ws2 := (w_MO dA a (some (ba 0)) q1 g2 g3 g4 g5 (wa 0) (la 0) (ha 0) (ca 0) (na 0) (da 0) (fa 0) g13 (ra 0) g15 g16 g17 g18 mo ++ (w_W dA wa y_w ++ (w_Looks dA la y_looks ++ (w_Who dA ha z3 ++ (w_Look dA ca z4 ++ (w_Coming dA na y_coming ++ (w_Ahead dA da z6 ++ (w_Left dA fa z7 ++ (w_Part dA ra z8 ++ (w_Bus dA ba bu))))))))))) (kb_rS (n := 1) (As := [.int ((yLeft_r z7) (v1).toNatClampNeg)]) (rest := [.int (27720 : Int32), .int v1, .ref (ra 0)]) hx hb hml hown hK (c_X12_bits l D dA H.size ((yLeft_r z7) (v1).toNatClampNeg) r11 hc11) ⟨ww_8_80, ww_8_78, ww_8_79, ww_1_12, by decide, by decide⟩ rfl rfl (by decide +kernel) ⟨Nat.le_of_ble_eq_true rfl, Nat.le_of_ble_eq_true rfl⟩ hP hD hS hA hE [] rfl (by decide) rfl hl.1 rfl (Nat.le_of_ble_eq_true rfl) dX12_opens_138 ⟨Nat.le_of_ble_eq_true rfl, Nat.le_of_ble_eq_true rfl⟩) hP hD hS hA [] [0, 1, 2, 3, 4, 5, 6, 7, 8, 9, 10, 11, 12, 13, 14, 15, 16, 17, 18, 19, 20, 21, 22, 23, 24] [0, 1, 2, 3, 4, 5, 6, 7, 8, 9, 10, 11, 12, 13, 14, 15, 16, 17, 18, 19, 20, 21, 22, 23, 24] rfl rfl (by decide) (by decide) rfl (by decide) (fun H locs hP hD hS => ?_)
    obtain ⟨h_12, hf⟩ := kb_if hf
    refine lv_idiv hx hb dX12_opens_141 h_12 ?_
    refine lv_i2l hx hb dX12_opens_142 rfl ?_
    obtain ⟨h_13, hf⟩ := kb_if hf
    refine va_last (D := D) hx hb hK.1 hP hD hS 8 2 rfl rfl h_13 dX12_opens_143 (fun H locs hP hD hS => ?_)
    have hP : va_P D vwCl (w_MO dA a (some (ba 0)) q1 g2 g3 g4 g5 (wa 0) (la 0) (ha 0) (ca 0) (na 0) (da 0) (fa 0) g13 (ra 0) g15 g16 g17 g18 mo ++ (w_W dA wa y_w ++ (w_Looks dA la y_looks ++ (w_Who dA ha z3 ++ (w_Look dA ca z4 ++ (w_Coming dA na y_coming ++ (w_Ahead dA da z6 ++ (w_Left dA fa z7 ++ (w_Part dA ra (yPart_set_r z8 (vp_updL (yPart_r z8) (v1).toNatClampNeg (((27720 : Int32) / r11)).toInt64)) ++ (w_Bus dA ba bu)))))))))) H := hP
    have hD : va_D A (w_MO dA a (some (ba 0)) q1 g2 g3 g4 g5 (wa 0) (la 0) (ha 0) (ca 0) (na 0) (da 0) (fa 0) g13 (ra 0) g15 g16 g17 g18 mo ++ (w_W dA wa y_w ++ (w_Looks dA la y_looks ++ (w_Who dA ha z3 ++ (w_Look dA ca z4 ++ (w_Coming dA na y_coming ++ (w_Ahead dA da z6 ++ (w_Left dA fa z7 ++ (w_Part dA ra (yPart_set_r z8 (vp_updL (yPart_r z8) (v1).toNatClampNeg (((27720 : Int32) / r11)).toInt64)) ++ (w_Bus dA ba bu)))))))))) := hD
    exact B_144 _ _ _ _ _ _ _ _ hf hP hD hS (lv_sub hl [] rfl)
  have B_123 : ∀ (v1 : Int32) (s0 : Int32) (s1 : Int32) (z3 : WhoT) (z4 : LookT) (z6 : AheadT) (z7 : LeftT) (z8 : PartT) (H : Heap) (locs : List Loc) (ls : Array Slot), f_X12_opens_b123 mo y_w y_looks y_coming bu v1 s0 s1 z3 z4 z6 z7 z8 = some (u3, u4, u6, u7, u8) → va_P D vwCl (w_MO dA a (some (ba 0)) q1 g2 g3 g4 g5 (wa 0) (la 0) (ha 0) (ca 0) (na 0) (da 0) (fa 0) g13 (ra 0) g15 g16 g17 g18 mo ++ (w_W dA wa y_w ++ (w_Looks dA la y_looks ++ (w_Who dA ha z3 ++ (w_Look dA ca z4 ++ (w_Coming dA na y_coming ++ (w_Ahead dA da z6 ++ (w_Left dA fa z7 ++ (w_Part dA ra z8 ++ (w_Bus dA ba bu)))))))))) H → va_D A (w_MO dA a (some (ba 0)) q1 g2 g3 g4 g5 (wa 0) (la 0) (ha 0) (ca 0) (na 0) (da 0) (fa 0) g13 (ra 0) g15 g16 g17 g18 mo ++ (w_W dA wa y_w ++ (w_Looks dA la y_looks ++ (w_Who dA ha z3 ++ (w_Look dA ca z4 ++ (w_Coming dA na y_coming ++ (w_Ahead dA da z6 ++ (w_Left dA fa z7 ++ (w_Part dA ra z8 ++ (w_Bus dA ba bu)))))))))) → va_S A s.heap H locs → lv_has ls 5 [(0, .ref (a 0)), (1, .int v1)] → W p l e ({ frames := 7, cells := 0, slots := 0, locals := 167 } : Room) s m ([.ref (a 0), .int x0] : List Value).toArray below meth c H locs 0 0 Q (F0 m 123 ls [.int s0, .int s1, .ref (fa 0)]) := by
    intro v1 s0 s1 z3 z4 z6 z7 z8 H locs ls hf hP hD hS hl
    rw [f_X12_opens_b123] at hf
    obtain ⟨h_9, hf⟩ := kb_if hf
    refine va_iast (D := D) hx hb hK.1 hP hD hS 7 0 rfl rfl h_9 dX12_opens_123 (fun H locs hP hD hS => ?_)
    have hP : va_P D vwCl (w_MO dA a (some (ba 0)) q1 g2 g3 g4 g5 (wa 0) (la 0) (ha 0) (ca 0) (na 0) (da 0) (fa 0) g13 (ra 0) g15 g16 g17 g18 mo ++ (w_W dA wa y_w ++ (w_Looks dA la y_looks ++ (w_Who dA ha z3 ++ (w_Look dA ca z4 ++ (w_Coming dA na y_coming ++ (w_Ahead dA da z6 ++ (w_Left dA fa (yLeft_set_r z7 (upd (yLeft_r z7) (s1).toNatClampNeg s0)) ++ (w_Part dA ra z8 ++ (w_Bus dA ba bu)))))))))) H := hP
    have hD : va_D A (w_MO dA a (some (ba 0)) q1 g2 g3 g4 g5 (wa 0) (la 0) (ha 0) (ca 0) (na 0) (da 0) (fa 0) g13 (ra 0) g15 g16 g17 g18 mo ++ (w_W dA wa y_w ++ (w_Looks dA la y_looks ++ (w_Who dA ha z3 ++ (w_Look dA ca z4 ++ (w_Coming dA na y_coming ++ (w_Ahead dA da z6 ++ (w_Left dA fa (yLeft_set_r z7 (upd (yLeft_r z7) (s1).toNatClampNeg s0)) ++ (w_Part dA ra z8 ++ (w_Bus dA ba bu)))))))))) := hD
    exact B_124 _ _ _ _ _ _ _ _ _ hf hP hD hS (lv_sub hl [0, 1] rfl)
  have B_66 : ∀ (n : Nat) (v1 : Int32) (v2 : Int32) (v3 : Int32) (v4 : Int32) (z3 : WhoT) (z4 : LookT) (z6 : AheadT) (z7 : LeftT) (z8 : PartT) (H : Heap) (locs : List Loc) (ls : Array Slot), f_X12_opens_b66 mo y_w y_looks y_coming bu n v1 v2 v3 v4 z3 z4 z6 z7 z8 = some (u3, u4, u6, u7, u8) → va_P D vwCl (w_MO dA a (some (ba 0)) q1 g2 g3 g4 g5 (wa 0) (la 0) (ha 0) (ca 0) (na 0) (da 0) (fa 0) g13 (ra 0) g15 g16 g17 g18 mo ++ (w_W dA wa y_w ++ (w_Looks dA la y_looks ++ (w_Who dA ha z3 ++ (w_Look dA ca z4 ++ (w_Coming dA na y_coming ++ (w_Ahead dA da z6 ++ (w_Left dA fa z7 ++ (w_Part dA ra z8 ++ (w_Bus dA ba bu)))))))))) H → va_D A (w_MO dA a (some (ba 0)) q1 g2 g3 g4 g5 (wa 0) (la 0) (ha 0) (ca 0) (na 0) (da 0) (fa 0) g13 (ra 0) g15 g16 g17 g18 mo ++ (w_W dA wa y_w ++ (w_Looks dA la y_looks ++ (w_Who dA ha z3 ++ (w_Look dA ca z4 ++ (w_Coming dA na y_coming ++ (w_Ahead dA da z6 ++ (w_Left dA fa z7 ++ (w_Part dA ra z8 ++ (w_Bus dA ba bu)))))))))) → va_S A s.heap H locs → lv_has ls 5 [(0, .ref (a 0)), (1, .int v1), (2, .int v2), (3, .int v3), (4, .int v4)] → W p l e ({ frames := 7, cells := 0, slots := 0, locals := 167 } : Room) s m ([.ref (a 0), .int x0] : List Value).toArray below meth c H locs 0 0 Q (F0 m 66 ls []) := by
    intro n
    induction n with
    | zero =>
      intro v1 v2 v3 v4 z3 z4 z6 z7 z8 H locs ls hf
      exact absurd hf (by simp [f_X12_opens_b66])
    | succ n ih =>
      intro v1 v2 v3 v4 z3 z4 z6 z7 z8 H locs ls hf hP hD hS hl
      rw [f_X12_opens_b66] at hf
      refine lv_iload_n hx hb dX12_opens_66 rfl (lv_at hl 3 rfl) ?_
      refine lv_bipush (v := (20 : Int32)) hx hb dX12_opens_67 (by decide) ?_
      refine lv_icmp_ge (tgt := 107) hx hb dX12_opens_69 (by decide) (fun c_7 => ?_) (fun c_7 => ?_)
      · rw [if_pos c_7] at hf
        refine lv_aload_n hx hb dX12_opens_107 rfl (lv_at hl 0 rfl) ?_
        refine va_get (D := D) (ci := 12) (v := .ref (fa 0)) (C := RX12) (T := TX12) (N := 35) hx hb hts kb_inX12 hown hK.1 hP 0 rfl rfl 27 (by decide) (hK.2.w ww_5_227 rfl _) (fun _ h9 => h9) rfl dX12_opens_108 ?_
        refine lv_iload_n hx hb dX12_opens_111 rfl (lv_at hl 1 rfl) ?_
        refine lv_iload_n hx hb dX12_opens_112 rfl (lv_at hl 2 rfl) ?_
        refine lv_if_ne (tgt := 122) hx hb dX12_opens_113 (by decide) (fun c_8 => ?_) (fun c_8 => ?_)
        · rw [if_neg c_8] at hf
          refine lv_iload_n hx hb dX12_opens_122 rfl (lv_at hl 2 rfl) ?_
          exact B_123 _ _ _ _ _ _ _ _ _ _ _ hf hP hD hS (lv_sub hl [0, 1] rfl)
        · rw [if_pos c_8] at hf
          refine lv_ldcw (v := (1048576 : Int32)) hx hb hown (hK.2.w ww_8_97 rfl _) dX12_opens_116 ?_
          refine lv_goto (tgt := 123) hx hb dX12_opens_119 (by decide) ?_
          exact B_123 _ _ _ _ _ _ _ _ _ _ _ hf hP hD hS (lv_sub hl [0, 1] rfl)
      · rw [if_neg c_7] at hf
        refine lv_iload_n hx hb dX12_opens_72 rfl (lv_at hl 2 rfl) ?_
        refine lv_iload_n hx hb dX12_opens_73 rfl (lv_at hl 3 rfl) ?_
        obtain ⟨r14, hc14, hf⟩ := kb_bind hf
        refine kb_ci (ws2 := (w_MO dA a (some (ba 0)) q1 g2 g3 g4 g5 (wa 0) (la 0) (ha 0) (ca 0) (na 0) (da 0) (fa 0) g13 (ra 0) g15 g16 g17 g18 mo ++ (w_W dA wa y_w ++ (w_Looks dA la y_looks ++ (w_Who dA ha z3 ++ (w_Look dA ca z4 ++ (w_Coming dA na y_coming ++ (w_Ahead dA da z6 ++ (w_Left dA fa z7 ++ (w_Part dA ra z8 ++ (w_Bus dA ba bu))))))))))) (kb_rS (n := 2) (As := [.int v2, .int v3]) (rest := []) hx hb hml hown hK (c_X12_has l D dA H.size v2 v3 r14 hc14) ⟨ww_7_182, ww_7_180, ww_7_181, ww_1_12, by decide, by decide⟩ rfl rfl (by decide +kernel) ⟨Nat.le_of_ble_eq_true rfl, Nat.le_of_ble_eq_true rfl⟩ hP hD hS hA hE [] rfl (by decide) rfl hl.1 rfl (Nat.le_of_ble_eq_true rfl) dX12_opens_74 ⟨Nat.le_of_ble_eq_true rfl, Nat.le_of_ble_eq_true rfl⟩) hP hD hS hA [] [0, 1, 2, 3, 4, 5, 6, 7, 8, 9, 10, 11, 12, 13, 14, 15, 16, 17, 18, 19, 20, 21, 22, 23, 24] [0, 1, 2, 3, 4, 5, 6, 7, 8, 9, 10, 11, 12, 13, 14, 15, 16, 17, 18, 19, 20, 21, 22, 23, 24] rfl rfl (by decide) (by decide) rfl (by decide) (fun H locs hP hD hS => ?_)
        refine lv_if_ne (tgt := 83) hx hb dX12_opens_77 (by decide) (fun c_15 => ?_) (fun c_15 => ?_)
        · rw [if_neg c_15] at hf
          refine lv_iinc (v := (v4 + (1 : Int32))) (lv' := [(4, .int (v4 + (1 : Int32))), (0, .ref (a 0)), (1, .int v1), (2, .int v2), (3, .int v3)]) hx hb dX12_opens_83 hl (k := 4) rfl (by rfl) (by decide) rfl (fun ls hl => ?_)
          refine lv_iload hx hb dX12_opens_86 (lv_at hl 0 rfl) ?_
          refine lv_bipush (v := (12 : Int32)) hx hb dX12_opens_88 (by decide) ?_
          refine lv_icmp_le (tgt := 101) hx hb dX12_opens_90 (by decide) (fun c_16 => ?_) (fun c_16 => ?_)
          · rw [if_pos c_16] at hf
            refine lv_iinc (v := (v3 + (1 : Int32))) (lv' := [(3, .int (v3 + (1 : Int32))), (4, .int (v4 + (1 : Int32))), (0, .ref (a 0)), (1, .int v1), (2, .int v2)]) hx hb dX12_opens_101 hl (k := 4) rfl (by rfl) (by decide) rfl (fun ls hl => ?_)
            refine lv_goto (tgt := 66) hx hb dX12_opens_104 (by decide) ?_
            exact ih _ _ _ _ _ _ _ _ _ _ _ _ hf hP hD hS (lv_sub hl [2, 3, 4, 0, 1] rfl)
          · rw [if_neg c_16] at hf
            refine lv_iload_n hx hb dX12_opens_93 rfl (lv_at hl 3 rfl) ?_
            refine lv_iconst (v := (1 : Int32)) hx hb dX12_opens_94 (by decide) ?_
            refine lv_iload_n hx hb dX12_opens_95 rfl (lv_at hl 4 rfl) ?_
            refine lv_ishl hx hb dX12_opens_96 ?_
            refine lv_iconst (v := (-1 : Int32)) hx hb dX12_opens_97 (by decide) ?_
            refine lv_ixor hx hb dX12_opens_98 ?_
            refine lv_iand hx hb dX12_opens_99 ?_
            refine lv_istore_n (lv' := [(2, .int (v2 &&& (((1 : Int32) <<< (v3 &&& 31)) ^^^ (-1 : Int32)))), (4, .int (v4 + (1 : Int32))), (0, .ref (a 0)), (1, .int v1), (3, .int v3)]) hx hb dX12_opens_100 rfl hl (by decide) rfl (fun ls hl => ?_)
            refine lv_iinc (v := (v3 + (1 : Int32))) (lv' := [(3, .int (v3 + (1 : Int32))), (2, .int (v2 &&& (((1 : Int32) <<< (v3 &&& 31)) ^^^ (-1 : Int32)))), (4, .int (v4 + (1 : Int32))), (0, .ref (a 0)), (1, .int v1)]) hx hb dX12_opens_101 hl (k := 4) rfl (by rfl) (by decide) rfl (fun ls hl => ?_)
            refine lv_goto (tgt := 66) hx hb dX12_opens_104 (by decide) ?_
            exact ih _ _ _ _ _ _ _ _ _ _ _ _ hf hP hD hS (lv_sub hl [3, 4, 1, 0, 2] rfl)
        · rw [if_pos c_15] at hf
          refine lv_goto (tgt := 101) hx hb dX12_opens_80 (by decide) ?_
          refine lv_iinc (v := (v3 + (1 : Int32))) (lv' := [(3, .int (v3 + (1 : Int32))), (0, .ref (a 0)), (1, .int v1), (2, .int v2), (4, .int v4)]) hx hb dX12_opens_101 hl (k := 3) rfl (by rfl) (by decide) rfl (fun ls hl => ?_)
          refine lv_goto (tgt := 66) hx hb dX12_opens_104 (by decide) ?_
          exact ih _ _ _ _ _ _ _ _ _ _ _ _ hf hP hD hS (lv_sub hl [1, 2, 3, 0, 4] rfl)
  have B_60 : ∀ (v1 : Int32) (s0 : Int32) (z3 : WhoT) (z4 : LookT) (z6 : AheadT) (z7 : LeftT) (z8 : PartT) (H : Heap) (locs : List Loc) (ls : Array Slot), f_X12_opens_b60 mo y_w y_looks y_coming bu v1 s0 z3 z4 z6 z7 z8 = some (u3, u4, u6, u7, u8) → va_P D vwCl (w_MO dA a (some (ba 0)) q1 g2 g3 g4 g5 (wa 0) (la 0) (ha 0) (ca 0) (na 0) (da 0) (fa 0) g13 (ra 0) g15 g16 g17 g18 mo ++ (w_W dA wa y_w ++ (w_Looks dA la y_looks ++ (w_Who dA ha z3 ++ (w_Look dA ca z4 ++ (w_Coming dA na y_coming ++ (w_Ahead dA da z6 ++ (w_Left dA fa z7 ++ (w_Part dA ra z8 ++ (w_Bus dA ba bu)))))))))) H → va_D A (w_MO dA a (some (ba 0)) q1 g2 g3 g4 g5 (wa 0) (la 0) (ha 0) (ca 0) (na 0) (da 0) (fa 0) g13 (ra 0) g15 g16 g17 g18 mo ++ (w_W dA wa y_w ++ (w_Looks dA la y_looks ++ (w_Who dA ha z3 ++ (w_Look dA ca z4 ++ (w_Coming dA na y_coming ++ (w_Ahead dA da z6 ++ (w_Left dA fa z7 ++ (w_Part dA ra z8 ++ (w_Bus dA ba bu)))))))))) → va_S A s.heap H locs → lv_has ls 5 [(0, .ref (a 0)), (1, .int v1)] → W p l e ({ frames := 7, cells := 0, slots := 0, locals := 167 } : Room) s m ([.ref (a 0), .int x0] : List Value).toArray below meth c H locs 0 0 Q (F0 m 60 ls [.int s0]) := by
    intro v1 s0 z3 z4 z6 z7 z8 H locs ls hf hP hD hS hl
    rw [f_X12_opens_b60] at hf
    refine lv_istore_n (lv' := [(2, .int s0), (0, .ref (a 0)), (1, .int v1)]) hx hb dX12_opens_60 rfl hl (by decide) rfl (fun ls hl => ?_)
    refine lv_iconst (v := (0 : Int32)) hx hb dX12_opens_61 (by decide) ?_
    refine lv_istore_n (lv' := [(3, .int (0 : Int32)), (2, .int s0), (0, .ref (a 0)), (1, .int v1)]) hx hb dX12_opens_62 rfl hl (by decide) rfl (fun ls hl => ?_)
    refine lv_iconst (v := (0 : Int32)) hx hb dX12_opens_63 (by decide) ?_
    refine lv_istore (lv' := [(4, .int (0 : Int32)), (3, .int (0 : Int32)), (2, .int s0), (0, .ref (a 0)), (1, .int v1)]) hx hb dX12_opens_64 hl (by decide) rfl (fun ls hl => ?_)
    exact B_66 4096 _ _ _ _ _ _ _ _ _ _ _ _ hf hP hD hS (lv_sub hl [3, 4, 2, 1, 0] rfl)
  have B_25 : ∀ (k2 : Int32 → Int32 → WhoT → LookT → AheadT → LeftT → PartT → Option (WhoT × LookT × AheadT × LeftT × PartT)) (hk2 : ∀ (v1 : Int32) (v2 : Int32) (z3 : WhoT) (z4 : LookT) (z6 : AheadT) (z7 : LeftT) (z8 : PartT) (H : Heap) (locs : List Loc) (ls : Array Slot), k2 v1 v2 z3 z4 z6 z7 z8 = some (u3, u4, u6, u7, u8) → va_P D vwCl (w_MO dA a (some (ba 0)) q1 g2 g3 g4 g5 (wa 0) (la 0) (ha 0) (ca 0) (na 0) (da 0) (fa 0) g13 (ra 0) g15 g16 g17 g18 mo ++ (w_W dA wa y_w ++ (w_Looks dA la y_looks ++ (w_Who dA ha z3 ++ (w_Look dA ca z4 ++ (w_Coming dA na y_coming ++ (w_Ahead dA da z6 ++ (w_Left dA fa z7 ++ (w_Part dA ra z8 ++ (w_Bus dA ba bu)))))))))) H → va_D A (w_MO dA a (some (ba 0)) q1 g2 g3 g4 g5 (wa 0) (la 0) (ha 0) (ca 0) (na 0) (da 0) (fa 0) g13 (ra 0) g15 g16 g17 g18 mo ++ (w_W dA wa y_w ++ (w_Looks dA la y_looks ++ (w_Who dA ha z3 ++ (w_Look dA ca z4 ++ (w_Coming dA na y_coming ++ (w_Ahead dA da z6 ++ (w_Left dA fa z7 ++ (w_Part dA ra z8 ++ (w_Bus dA ba bu)))))))))) → va_S A s.heap H locs → lv_has ls 5 [(0, .ref (a 0)), (1, .int v1), (2, .int v2)] → W p l e ({ frames := 7, cells := 0, slots := 0, locals := 167 } : Room) s m ([.ref (a 0), .int x0] : List Value).toArray below meth c H locs 0 0 Q (F0 m 2 ls [])) (v1 : Int32) (v2 : Int32) (z3 : WhoT) (z4 : LookT) (z6 : AheadT) (z7 : LeftT) (z8 : PartT) (H : Heap) (locs : List Loc) (ls : Array Slot), f_X12_opens_b25 mo y_w y_looks y_coming bu k2 v1 v2 z3 z4 z6 z7 z8 = some (u3, u4, u6, u7, u8) → va_P D vwCl (w_MO dA a (some (ba 0)) q1 g2 g3 g4 g5 (wa 0) (la 0) (ha 0) (ca 0) (na 0) (da 0) (fa 0) g13 (ra 0) g15 g16 g17 g18 mo ++ (w_W dA wa y_w ++ (w_Looks dA la y_looks ++ (w_Who dA ha z3 ++ (w_Look dA ca z4 ++ (w_Coming dA na y_coming ++ (w_Ahead dA da z6 ++ (w_Left dA fa z7 ++ (w_Part dA ra z8 ++ (w_Bus dA ba bu)))))))))) H → va_D A (w_MO dA a (some (ba 0)) q1 g2 g3 g4 g5 (wa 0) (la 0) (ha 0) (ca 0) (na 0) (da 0) (fa 0) g13 (ra 0) g15 g16 g17 g18 mo ++ (w_W dA wa y_w ++ (w_Looks dA la y_looks ++ (w_Who dA ha z3 ++ (w_Look dA ca z4 ++ (w_Coming dA na y_coming ++ (w_Ahead dA da z6 ++ (w_Left dA fa z7 ++ (w_Part dA ra z8 ++ (w_Bus dA ba bu)))))))))) → va_S A s.heap H locs → lv_has ls 5 [(0, .ref (a 0)), (1, .int v1), (2, .int v2)] → W p l e ({ frames := 7, cells := 0, slots := 0, locals := 167 } : Room) s m ([.ref (a 0), .int x0] : List Value).toArray below meth c H locs 0 0 Q (F0 m 25 ls []) := by
    intro k2 hk2 v1 v2 z3 z4 z6 z7 z8 H locs ls hf hP hD hS hl
    rw [f_X12_opens_b25] at hf
    refine lv_iinc (v := (v2 + (1 : Int32))) (lv' := [(2, .int (v2 + (1 : Int32))), (0, .ref (a 0)), (1, .int v1)]) hx hb dX12_opens_25 hl (k := 2) rfl (by rfl) (by decide) rfl (fun ls hl => ?_)
    refine lv_goto (tgt := 2) hx hb dX12_opens_28 (by decide) ?_
    exact hk2 _ _ _ _ _ _ _ _ _ _ hf hP hD hS (lv_sub hl [1, 2, 0] rfl)
  have B_2 : ∀ (n : Nat) (v1 : Int32) (v2 : Int32) (z3 : WhoT) (z4 : LookT) (z6 : AheadT) (z7 : LeftT) (z8 : PartT) (H : Heap) (locs : List Loc) (ls : Array Slot), f_X12_opens_b2 mo y_w y_looks y_coming bu n v1 v2 z3 z4 z6 z7 z8 = some (u3, u4, u6, u7, u8) → va_P D vwCl (w_MO dA a (some (ba 0)) q1 g2 g3 g4 g5 (wa 0) (la 0) (ha 0) (ca 0) (na 0) (da 0) (fa 0) g13 (ra 0) g15 g16 g17 g18 mo ++ (w_W dA wa y_w ++ (w_Looks dA la y_looks ++ (w_Who dA ha z3 ++ (w_Look dA ca z4 ++ (w_Coming dA na y_coming ++ (w_Ahead dA da z6 ++ (w_Left dA fa z7 ++ (w_Part dA ra z8 ++ (w_Bus dA ba bu)))))))))) H → va_D A (w_MO dA a (some (ba 0)) q1 g2 g3 g4 g5 (wa 0) (la 0) (ha 0) (ca 0) (na 0) (da 0) (fa 0) g13 (ra 0) g15 g16 g17 g18 mo ++ (w_W dA wa y_w ++ (w_Looks dA la y_looks ++ (w_Who dA ha z3 ++ (w_Look dA ca z4 ++ (w_Coming dA na y_coming ++ (w_Ahead dA da z6 ++ (w_Left dA fa z7 ++ (w_Part dA ra z8 ++ (w_Bus dA ba bu)))))))))) → va_S A s.heap H locs → lv_has ls 5 [(0, .ref (a 0)), (1, .int v1), (2, .int v2)] → W p l e ({ frames := 7, cells := 0, slots := 0, locals := 167 } : Room) s m ([.ref (a 0), .int x0] : List Value).toArray below meth c H locs 0 0 Q (F0 m 2 ls []) := by
    intro n
    induction n with
    | zero =>
      intro v1 v2 z3 z4 z6 z7 z8 H locs ls hf
      exact absurd hf (by simp [f_X12_opens_b2])
    | succ n ih =>
      intro v1 v2 z3 z4 z6 z7 z8 H locs ls hf hP hD hS hl
      rw [f_X12_opens_b2] at hf
      refine lv_iload_n hx hb dX12_opens_2 rfl (lv_at hl 2 rfl) ?_
      refine lv_bipush (v := (56 : Int32)) hx hb dX12_opens_3 (by decide) ?_
      refine lv_icmp_ge (tgt := 31) hx hb dX12_opens_5 (by decide) (fun c_1 => ?_) (fun c_1 => ?_)
      · rw [if_pos c_1] at hf
        refine lv_aload_n hx hb dX12_opens_31 rfl (lv_at hl 0 rfl) ?_
        refine lv_aload_n hx hb dX12_opens_32 rfl (lv_at hl 0 rfl) ?_
        refine va_get (D := D) (ci := 12) (v := .ref (na 0)) (C := RX12) (T := TX12) (N := 35) hx hb hts kb_inX12 hown hK.1 hP 0 rfl rfl 24 (by decide) (hK.2.w ww_5_224 rfl _) (fun _ h9 => h9) rfl dX12_opens_33 ?_
        refine lv_iload_n hx hb dX12_opens_36 rfl (lv_at hl 1 rfl) ?_
        obtain ⟨h_2, hf⟩ := kb_if hf
        refine va_iald (D := D) hx hb hK.1 hP 5 0 rfl rfl h_2 dX12_opens_37 ?_
        obtain ⟨r3, hc3, hf⟩ := kb_bind hf
        refine kb_ci (ws2 := (w_MO dA a (some (ba 0)) q1 g2 g3 g4 g5 (wa 0) (la 0) (ha 0) (ca 0) (na 0) (da 0) (fa 0) g13 (ra 0) g15 g16 g17 g18 mo ++ (w_W dA wa y_w ++ (w_Looks dA la y_looks ++ (w_Who dA ha r3.2.1 ++ (w_Look dA ca r3.2.2 ++ (w_Coming dA na y_coming ++ (w_Ahead dA da z6 ++ (w_Left dA fa z7 ++ (w_Part dA ra z8 ++ (w_Bus dA ba bu))))))))))) (kb_rV (n := 1) (As := [.int ((yComing_r y_coming) (v1).toNatClampNeg)]) (rest := []) hx hb hml hown hK (c_X12_chosen l D dA H.size a wa la ha ca ba q1 g2 g3 g4 g5 (na 0) (da 0) (fa 0) g13 (ra 0) g15 g16 g17 g18 mo y_w y_looks z3 z4 bu ((yComing_r y_coming) (v1).toNatClampNeg) r3.1 r3.2.1 r3.2.2 hc3) ⟨ww_7_194, ww_7_191, ww_7_193, ws_87, ww_1_12, rfl, by decide, by decide⟩ rfl rfl (by decide +kernel) ⟨Nat.le_of_ble_eq_true rfl, Nat.le_of_ble_eq_true rfl⟩ hP hD hS hA hE [0, 1, 2, 3, 4, 9, 10, 11, 12, 13, 14, 15, 16, 17, 18, 19, 20, 21, 22, 23, 24] rfl (by decide) 0 rfl rfl rfl hl.1 rfl (Nat.le_of_ble_eq_true rfl) dX12_opens_38 ⟨Nat.le_of_ble_eq_true rfl, Nat.le_of_ble_eq_true rfl⟩) hP hD hS hA [0, 1, 2, 3, 4, 9, 10, 11, 12, 13, 14, 15, 16, 17, 18, 19, 20, 21, 22, 23, 24] [5, 6, 7, 8] [4, 5, 6, 7, 8, 0, 1, 2, 3, 9, 10, 11, 12, 13, 14, 15, 16, 17, 18, 19, 20, 21, 22, 23, 24] rfl rfl (by decide) (by decide) rfl (by decide) (fun H locs hP hD hS => ?_)
        refine lv_bipush (v := (-2 : Int32)) hx hb dX12_opens_41 (by decide) ?_
        refine lv_icmp_ne (tgt := 50) hx hb dX12_opens_43 (by decide) (fun c_4 => ?_) (fun c_4 => ?_)
        · rw [if_neg c_4] at hf
          refine lv_aload_n hx hb dX12_opens_50 rfl (lv_at hl 0 rfl) ?_
          refine lv_aload_n hx hb dX12_opens_51 rfl (lv_at hl 0 rfl) ?_
          refine va_get (D := D) (ci := 12) (v := .ref (na 0)) (C := RX12) (T := TX12) (N := 35) hx hb hts kb_inX12 hown hK.1 hP 0 rfl rfl 24 (by decide) (hK.2.w ww_5_224 rfl _) (fun _ h9 => h9) rfl dX12_opens_52 ?_
          refine lv_iload_n hx hb dX12_opens_55 rfl (lv_at hl 1 rfl) ?_
          obtain ⟨h_5, hf⟩ := kb_if hf
          refine va_iald (D := D) hx hb hK.1 hP 5 0 rfl rfl h_5 dX12_opens_56 ?_
          obtain ⟨r6, hc6, hf⟩ := kb_bind hf
          refine kb_ci (ws2 := (w_MO dA a (some (ba 0)) q1 g2 g3 g4 g5 (wa 0) (la 0) (ha 0) (ca 0) (na 0) (da 0) (fa 0) g13 (ra 0) g15 g16 g17 g18 mo ++ (w_W dA wa y_w ++ (w_Looks dA la y_looks ++ (w_Who dA ha r6.2.1 ++ (w_Look dA ca r6.2.2 ++ (w_Coming dA na y_coming ++ (w_Ahead dA da z6 ++ (w_Left dA fa z7 ++ (w_Part dA ra z8 ++ (w_Bus dA ba bu))))))))))) (kb_rV (n := 1) (As := [.int ((yComing_r y_coming) (v1).toNatClampNeg)]) (rest := []) hx hb hml hown hK (c_X12_mightChoose l D dA H.size a wa la ha ca ba q1 g2 g3 g4 g5 (na 0) (da 0) (fa 0) g13 (ra 0) g15 g16 g17 g18 mo y_w y_looks r3.2.1 r3.2.2 bu ((yComing_r y_coming) (v1).toNatClampNeg) r6.1 r6.2.1 r6.2.2 hc6) ⟨ww_7_198, ww_7_195, ww_7_197, ws_88, ww_1_12, rfl, by decide, by decide⟩ rfl rfl (by decide +kernel) ⟨Nat.le_of_ble_eq_true rfl, Nat.le_of_ble_eq_true rfl⟩ hP hD hS hA hE [0, 1, 2, 3, 4, 9, 10, 11, 12, 13, 14, 15, 16, 17, 18, 19, 20, 21, 22, 23, 24] rfl (by decide) 0 rfl rfl rfl hl.1 rfl (Nat.le_of_ble_eq_true rfl) dX12_opens_57 ⟨Nat.le_of_ble_eq_true rfl, Nat.le_of_ble_eq_true rfl⟩) hP hD hS hA [0, 1, 2, 3, 4, 9, 10, 11, 12, 13, 14, 15, 16, 17, 18, 19, 20, 21, 22, 23, 24] [5, 6, 7, 8] [4, 5, 6, 7, 8, 0, 1, 2, 3, 9, 10, 11, 12, 13, 14, 15, 16, 17, 18, 19, 20, 21, 22, 23, 24] rfl rfl (by decide) (by decide) rfl (by decide) (fun H locs hP hD hS => ?_)
          exact B_60 _ _ _ _ _ _ _ _ _ _ hf hP hD hS (lv_sub hl [0, 1] rfl)
        · rw [if_pos c_4] at hf
          refine lv_iconst (v := (0 : Int32)) hx hb dX12_opens_46 (by decide) ?_
          refine lv_goto (tgt := 60) hx hb dX12_opens_47 (by decide) ?_
          exact B_60 _ _ _ _ _ _ _ _ _ _ hf hP hD hS (lv_sub hl [0, 1] rfl)
      · rw [if_neg c_1] at hf
        refine lv_aload_n hx hb dX12_opens_8 rfl (lv_at hl 0 rfl) ?_
        refine va_get (D := D) (ci := 12) (v := .ref (da 0)) (C := RX12) (T := TX12) (N := 35) hx hb hts kb_inX12 hown hK.1 hP 0 rfl rfl 26 (by decide) (hK.2.w ww_5_226 rfl _) (fun _ h9 => h9) rfl dX12_opens_9 ?_
        refine lv_bipush (v := (56 : Int32)) hx hb dX12_opens_12 (by decide) ?_
        refine lv_iload_n hx hb dX12_opens_14 rfl (lv_at hl 1 rfl) ?_
        refine lv_imul hx hb dX12_opens_15 ?_
        refine lv_iload_n hx hb dX12_opens_16 rfl (lv_at hl 2 rfl) ?_
        refine lv_iadd hx hb dX12_opens_17 ?_
        refine lv_aload_n hx hb dX12_opens_18 rfl (lv_at hl 0 rfl) ?_
        refine va_get (D := D) (ci := 12) (v := .ref (wa 0)) (C := RX12) (T := TX12) (N := 35) hx hb hts kb_inX12 hown hK.1 hP 0 rfl rfl 19 (by decide) (hK.2.w ww_5_219 rfl _) (fun _ h9 => h9) rfl dX12_opens_19 ?_
        refine lv_iload_n hx hb dX12_opens_22 rfl (lv_at hl 2 rfl) ?_
        obtain ⟨h_17, hf⟩ := kb_if hf
        refine va_iald (D := D) hx hb hK.1 hP 1 0 rfl rfl h_17 dX12_opens_23 ?_
        obtain ⟨h_18, hf⟩ := kb_if hf
        refine va_iast (D := D) hx hb hK.1 hP hD hS 6 0 rfl rfl h_18 dX12_opens_24 (fun H locs hP hD hS => ?_)
        have hP : va_P D vwCl (w_MO dA a (some (ba 0)) q1 g2 g3 g4 g5 (wa 0) (la 0) (ha 0) (ca 0) (na 0) (da 0) (fa 0) g13 (ra 0) g15 g16 g17 g18 mo ++ (w_W dA wa y_w ++ (w_Looks dA la y_looks ++ (w_Who dA ha z3 ++ (w_Look dA ca z4 ++ (w_Coming dA na y_coming ++ (w_Ahead dA da (yAhead_set_r z6 (upd (yAhead_r z6) ((((56 : Int32) * v1) + v2)).toNatClampNeg ((yW_r y_w) (v2).toNatClampNeg))) ++ (w_Left dA fa z7 ++ (w_Part dA ra z8 ++ (w_Bus dA ba bu)))))))))) H := hP
        have hD : va_D A (w_MO dA a (some (ba 0)) q1 g2 g3 g4 g5 (wa 0) (la 0) (ha 0) (ca 0) (na 0) (da 0) (fa 0) g13 (ra 0) g15 g16 g17 g18 mo ++ (w_W dA wa y_w ++ (w_Looks dA la y_looks ++ (w_Who dA ha z3 ++ (w_Look dA ca z4 ++ (w_Coming dA na y_coming ++ (w_Ahead dA da (yAhead_set_r z6 (upd (yAhead_r z6) ((((56 : Int32) * v1) + v2)).toNatClampNeg ((yW_r y_w) (v2).toNatClampNeg))) ++ (w_Left dA fa z7 ++ (w_Part dA ra z8 ++ (w_Bus dA ba bu)))))))))) := hD
        exact B_25 (f_X12_opens_b2 mo y_w y_looks y_coming bu n) ih _ _ _ _ _ _ _ _ _ _ hf hP hD hS (lv_sub hl [0, 1, 2] rfl)
  have E0 : ∀ (H : Heap) (locs : List Loc), va_P D vwCl (w_MO dA a (some (ba 0)) q1 g2 g3 g4 g5 (wa 0) (la 0) (ha 0) (ca 0) (na 0) (da 0) (fa 0) g13 (ra 0) g15 g16 g17 g18 mo ++ (w_W dA wa y_w ++ (w_Looks dA la y_looks ++ (w_Who dA ha y_who ++ (w_Look dA ca y_look ++ (w_Coming dA na y_coming ++ (w_Ahead dA da y_ahead ++ (w_Left dA fa y_left ++ (w_Part dA ra y_part ++ (w_Bus dA ba bu)))))))))) H → va_D A (w_MO dA a (some (ba 0)) q1 g2 g3 g4 g5 (wa 0) (la 0) (ha 0) (ca 0) (na 0) (da 0) (fa 0) g13 (ra 0) g15 g16 g17 g18 mo ++ (w_W dA wa y_w ++ (w_Looks dA la y_looks ++ (w_Who dA ha y_who ++ (w_Look dA ca y_look ++ (w_Coming dA na y_coming ++ (w_Ahead dA da y_ahead ++ (w_Left dA fa y_left ++ (w_Part dA ra y_part ++ (w_Bus dA ba bu)))))))))) → va_S A s.heap H locs → W p l e ({ frames := 7, cells := 0, slots := 0, locals := 167 } : Room) s m ([.ref (a 0), .int x0] : List Value).toArray below meth c H locs 0 0 Q (F0 m 0 ls []) := by
    intro H locs hP hD hS
    rw [f_X12_opens] at hf
    refine lv_iconst (v := (0 : Int32)) hx hb dX12_opens_0 (by decide) ?_
    refine lv_istore_n (lv' := [(2, .int (0 : Int32)), (0, .ref (a 0)), (1, .int x0)]) hx hb dX12_opens_1 rfl hl (by decide) rfl (fun ls hl => ?_)
    exact B_2 4096 _ _ _ _ _ _ _ _ _ _ hf hP hD hS (lv_sub hl [1, 2, 0] rfl)
  exact E0 _ _ hP hD hS

noncomputable def f_X12_takesNext_b111 (mo : MOT) (y_coming : ComingT) (y_ahead : AheadT) (y_part : PartT) (bu : BusT) (z1 : WT) (z4 : LeftT) (z5 : TimesT) : Option (WT × LeftT × TimesT) := some (z1, z4, z5)
noncomputable def f_X12_takesNext_b90 (mo : MOT) (y_coming : ComingT) (y_ahead : AheadT) (y_part : PartT) (bu : BusT) (v1 : Int32) (z1 : WT) (z4 : LeftT) (z5 : TimesT) : Option (WT × LeftT × TimesT) := if kb_in? v1 5 then if kb_in? v1 4 then if kb_in? (v1 + (1 : Int32)) 5 then f_X12_takesNext_b111 mo y_coming y_ahead y_part bu z1 z4 (yTimes_set_r z5 (vp_updL (yTimes_r z5) ((v1 + (1 : Int32))).toNatClampNeg (((yTimes_r z5) (v1).toNatClampNeg) * ((yPart_r y_part) (v1).toNatClampNeg)))) else none else none else none
noncomputable def f_X12_takesNext_b81 (mo : MOT) (y_coming : ComingT) (y_ahead : AheadT) (y_part : PartT) (bu : BusT) (v1 : Int32) (z1 : WT) (z4 : LeftT) (z5 : TimesT) : Option (WT × LeftT × TimesT) := f_X12_takesNext_b90 mo y_coming y_ahead y_part bu v1 z1 z4 z5
noncomputable def f_X12_takesNext_b58 (mo : MOT) (y_coming : ComingT) (y_ahead : AheadT) (y_part : PartT) (bu : BusT) (v1 : Int32) (v2 : Int32) (z1 : WT) (z4 : LeftT) (z5 : TimesT) : Option (WT × LeftT × TimesT) := if kb_in? v1 8 then (if v2 = (20 : Int32) then if kb_in? ((0 : Int32) + ((yComing_r y_coming) (v1).toNatClampNeg)) 56 then f_X12_takesNext_b81 mo y_coming y_ahead y_part bu v1 (yW_set_r z1 (upd (yW_r z1) (((0 : Int32) + ((yComing_r y_coming) (v1).toNatClampNeg))).toNatClampNeg (101 : Int32))) z4 z5 else none else (f_X12_sitsDown mo z1 bu ((yComing_r y_coming) (v1).toNatClampNeg) v2).bind fun r9 => f_X12_takesNext_b90 mo y_coming y_ahead y_part bu v1 r9 z4 z5) else none
noncomputable def f_X12_takesNext_b25 (mo : MOT) (y_coming : ComingT) (y_ahead : AheadT) (y_part : PartT) (bu : BusT) (k2 : Int32 → Int32 → WT → LeftT → TimesT → Option (WT × LeftT × TimesT)) (v1 : Int32) (v2 : Int32) (z1 : WT) (z4 : LeftT) (z5 : TimesT) : Option (WT × LeftT × TimesT) := k2 v1 (v2 + (1 : Int32)) z1 z4 z5
noncomputable def f_X12_takesNext_b2 (mo : MOT) (y_coming : ComingT) (y_ahead : AheadT) (y_part : PartT) (bu : BusT) : Nat → Int32 → Int32 → WT → LeftT → TimesT → Option (WT × LeftT × TimesT)
  | 0, _, _, _, _, _ => none
  | n + 1, v1, v2, z1, z4, z5 => (if (56 : Int32) ≤ v2 then if kb_in? v1 4 then (f_X12_first ((yLeft_r z4) (v1).toNatClampNeg)).bind fun r3 => if kb_in? v1 4 then if kb_in? v1 4 then if kb_in? v1 4 then f_X12_takesNext_b58 mo y_coming y_ahead y_part bu v1 r3 z1 (yLeft_set_r z4 (upd (yLeft_r z4) (v1).toNatClampNeg (((yLeft_r z4) (v1).toNatClampNeg) &&& (((yLeft_r z4) (v1).toNatClampNeg) - (1 : Int32))))) z5 else none else none else none else none else if kb_in? (((56 : Int32) * v1) + v2) 224 then if kb_in? v2 56 then f_X12_takesNext_b25 mo y_coming y_ahead y_part bu (f_X12_takesNext_b2 mo y_coming y_ahead y_part bu n) v1 v2 (yW_set_r z1 (upd (yW_r z1) (v2).toNatClampNeg ((yAhead_r y_ahead) ((((56 : Int32) * v1) + v2)).toNatClampNeg))) z4 z5 else none else none)
noncomputable def f_X12_takesNext (mo : MOT) (y_w : WT) (y_coming : ComingT) (y_ahead : AheadT) (y_left : LeftT) (y_times : TimesT) (y_part : PartT) (bu : BusT) (x0 : Int32) : Option (WT × LeftT × TimesT) := f_X12_takesNext_b2 mo y_coming y_ahead y_part bu 4096 x0 (0 : Int32) y_w y_left y_times
set_option maxHeartbeats 4000000 in
set_option maxRecDepth 100000 in
theorem c_X12_takesNext (l : Launch) (D : va_G) (dA : Nat → ClassId) (sz : Nat) (a : Nat → Nat) (wa : Nat → Nat) (na : Nat → Nat) (da : Nat → Nat) (fa : Nat → Nat) (ia : Nat → Nat) (ra : Nat → Nat) (ba : Nat → Nat) (q1 : Option Nat) (g2 : Nat) (g3 : Nat) (g4 : Nat) (g5 : Nat) (g7 : Nat) (g8 : Nat) (g9 : Nat) (g15 : Nat) (g16 : Nat) (g17 : Nat) (g18 : Nat) (mo : MOT) (y_w : WT) (y_coming : ComingT) (y_ahead : AheadT) (y_left : LeftT) (y_times : TimesT) (y_part : PartT) (bu : BusT) (x0 : Int32) (u1 : WT) (u4 : LeftT) (u5 : TimesT) (hf : f_X12_takesNext mo y_w y_coming y_ahead y_left y_times y_part bu x0 = some (u1, u4, u5)) : kb_Mv l yX12_takesNext cX12_takesNext 4 none ({ frames := 4, cells := 0, slots := 0, locals := 88 } : Room) D dA [.ref (a 0), .int x0] sz (w_MO dA a (some (ba 0)) q1 g2 g3 g4 g5 (wa 0) g7 g8 g9 (na 0) (da 0) (fa 0) (ia 0) (ra 0) g15 g16 g17 g18 mo ++ (w_W dA wa y_w ++ (w_Coming dA na y_coming ++ (w_Ahead dA da y_ahead ++ (w_Left dA fa y_left ++ (w_Times dA ia y_times ++ (w_Part dA ra y_part ++ (w_Bus dA ba bu)))))))) 0 0 (w_MO dA a (some (ba 0)) q1 g2 g3 g4 g5 (wa 0) g7 g8 g9 (na 0) (da 0) (fa 0) (ia 0) (ra 0) g15 g16 g17 g18 mo ++ (w_W dA wa u1 ++ (w_Coming dA na y_coming ++ (w_Ahead dA da y_ahead ++ (w_Left dA fa u4 ++ (w_Times dA ia u5 ++ (w_Part dA ra y_part ++ (w_Bus dA ba bu)))))))) := by
  refine Met.ofW (cc := cX12_takesNext) (maxL := 4) (ret := none) (by decide) rfl ?_
  intro p e s m args below meth c s₁ B hml hv
  obtain ⟨rfl, hsz, hP, hK, hD0, hE⟩ := hv
  have hx := B.exec
  have hb := B.bytes
  have hr := B.returns
  have hown : s.vm.findClass RX12 = some m.cls := findClass_of_methodNamed B.named
  have hlocks := B.notSynchronized
  have hts : ∀ w ∈ kb_gw, w.before ([.ref (a 0), .int x0] : List Value).toArray s = true := fun w hw => hK.2.1 w hw _
  subst hsz
  have hD := hD0.self (sz := s.heap.size)
  generalize hAe : va_A (w_MO dA a (some (ba 0)) q1 g2 g3 g4 g5 (wa 0) g7 g8 g9 (na 0) (da 0) (fa 0) (ia 0) (ra 0) g15 g16 g17 g18 mo ++ (w_W dA wa y_w ++ (w_Coming dA na y_coming ++ (w_Ahead dA da y_ahead ++ (w_Left dA fa y_left ++ (w_Times dA ia y_times ++ (w_Part dA ra y_part ++ (w_Bus dA ba bu)))))))) s.heap.size = A at hD hE ⊢
  have hA : ∀ q : Nat, s.heap.size ≤ q → A q := fun q h => by rw [← hAe]; exact Or.inr h
  have hS : va_S A s.heap s.heap [] := va_S.rf
  have hl := lv_entry ([.ref (a 0), .int x0]) (n := 4) (Nat.le_of_ble_eq_true rfl)
  rw [lg_entry_eq]
  generalize (lg_sl ([.ref (a 0), .int x0]) ++ List.replicate (4 - (lg_sl ([.ref (a 0), .int x0])).length) Slot.unset).toArray = ls at hl ⊢
  have hl : lv_has ls 4 [(0, .ref (a 0)), (1, .int x0)] := hl
  generalize hQ : MQ below (va_Qv (fun (_ : Unit) => True) (kb_B D A (w_MO dA a (some (ba 0)) q1 g2 g3 g4 g5 (wa 0) g7 g8 g9 (na 0) (da 0) (fa 0) (ia 0) (ra 0) g15 g16 g17 g18 mo ++ (w_W dA wa u1 ++ (w_Coming dA na y_coming ++ (w_Ahead dA da y_ahead ++ (w_Left dA fa u4 ++ (w_Times dA ia u5 ++ (w_Part dA ra y_part ++ (w_Bus dA ba bu))))))))) A) ([.ref (a 0), .int x0] : List Value).toArray s 0 0 A = Q
  show W p l e ({ frames := 4, cells := 0, slots := 0, locals := 88 } : Room) s m ([.ref (a 0), .int x0] : List Value).toArray below meth c s.heap [] 0 0 Q (F0 m 0 ls [])
  have RET : ∀ (w1 : WT) (w4 : LeftT) (w5 : TimesT) (H : Heap) (locs : List Loc) (ls : Array Slot) (pc : Nat), some (w1, w4, w5) = some (u1, u4, u5) → va_P D vwCl (w_MO dA a (some (ba 0)) q1 g2 g3 g4 g5 (wa 0) g7 g8 g9 (na 0) (da 0) (fa 0) (ia 0) (ra 0) g15 g16 g17 g18 mo ++ (w_W dA wa w1 ++ (w_Coming dA na y_coming ++ (w_Ahead dA da y_ahead ++ (w_Left dA fa w4 ++ (w_Times dA ia w5 ++ (w_Part dA ra y_part ++ (w_Bus dA ba bu)))))))) H → va_D A (w_MO dA a (some (ba 0)) q1 g2 g3 g4 g5 (wa 0) g7 g8 g9 (na 0) (da 0) (fa 0) (ia 0) (ra 0) g15 g16 g17 g18 mo ++ (w_W dA wa w1 ++ (w_Coming dA na y_coming ++ (w_Ahead dA da y_ahead ++ (w_Left dA fa w4 ++ (w_Times dA ia w5 ++ (w_Part dA ra y_part ++ (w_Bus dA ba bu)))))))) → va_S A s.heap H locs → decode cX12_takesNext pc = .ok (.return_, 1) → W p l e ({ frames := 4, cells := 0, slots := 0, locals := 88 } : Room) s m ([.ref (a 0), .int x0] : List Value).toArray below meth c H locs 0 0 Q (F0 m pc ls []) := by
    intro w1 w4 w5 H locs ls pc hq hP hD hS hd
    cases hq
    rw [← hQ]
    exact W.vret hx hb hr (fun t ht hW => ⟨⟨(), rfl, trivial, by rw [ht]; exact hP, hD⟩, hS.F ht⟩) hS.2.2 hd
  have B_111 : ∀ (z1 : WT) (z4 : LeftT) (z5 : TimesT) (H : Heap) (locs : List Loc) (ls : Array Slot), f_X12_takesNext_b111 mo y_coming y_ahead y_part bu z1 z4 z5 = some (u1, u4, u5) → va_P D vwCl (w_MO dA a (some (ba 0)) q1 g2 g3 g4 g5 (wa 0) g7 g8 g9 (na 0) (da 0) (fa 0) (ia 0) (ra 0) g15 g16 g17 g18 mo ++ (w_W dA wa z1 ++ (w_Coming dA na y_coming ++ (w_Ahead dA da y_ahead ++ (w_Left dA fa z4 ++ (w_Times dA ia z5 ++ (w_Part dA ra y_part ++ (w_Bus dA ba bu)))))))) H → va_D A (w_MO dA a (some (ba 0)) q1 g2 g3 g4 g5 (wa 0) g7 g8 g9 (na 0) (da 0) (fa 0) (ia 0) (ra 0) g15 g16 g17 g18 mo ++ (w_W dA wa z1 ++ (w_Coming dA na y_coming ++ (w_Ahead dA da y_ahead ++ (w_Left dA fa z4 ++ (w_Times dA ia z5 ++ (w_Part dA ra y_part ++ (w_Bus dA ba bu)))))))) → va_S A s.heap H locs → lv_has ls 4 [] → W p l e ({ frames := 4, cells := 0, slots := 0, locals := 88 } : Room) s m ([.ref (a 0), .int x0] : List Value).toArray below meth c H locs 0 0 Q (F0 m 111 ls []) := by
    intro z1 z4 z5 H locs ls hf hP hD hS hl
    rw [f_X12_takesNext_b111] at hf
    exact RET _ _ _ H _ ls 111 hf hP hD hS dX12_takesNext_111
  have B_90 : ∀ (v1 : Int32) (z1 : WT) (z4 : LeftT) (z5 : TimesT) (H : Heap) (locs : List Loc) (ls : Array Slot), f_X12_takesNext_b90 mo y_coming y_ahead y_part bu v1 z1 z4 z5 = some (u1, u4, u5) → va_P D vwCl (w_MO dA a (some (ba 0)) q1 g2 g3 g4 g5 (wa 0) g7 g8 g9 (na 0) (da 0) (fa 0) (ia 0) (ra 0) g15 g16 g17 g18 mo ++ (w_W dA wa z1 ++ (w_Coming dA na y_coming ++ (w_Ahead dA da y_ahead ++ (w_Left dA fa z4 ++ (w_Times dA ia z5 ++ (w_Part dA ra y_part ++ (w_Bus dA ba bu)))))))) H → va_D A (w_MO dA a (some (ba 0)) q1 g2 g3 g4 g5 (wa 0) g7 g8 g9 (na 0) (da 0) (fa 0) (ia 0) (ra 0) g15 g16 g17 g18 mo ++ (w_W dA wa z1 ++ (w_Coming dA na y_coming ++ (w_Ahead dA da y_ahead ++ (w_Left dA fa z4 ++ (w_Times dA ia z5 ++ (w_Part dA ra y_part ++ (w_Bus dA ba bu)))))))) → va_S A s.heap H locs → lv_has ls 4 [(0, .ref (a 0)), (1, .int v1)] → W p l e ({ frames := 4, cells := 0, slots := 0, locals := 88 } : Room) s m ([.ref (a 0), .int x0] : List Value).toArray below meth c H locs 0 0 Q (F0 m 90 ls []) := by
    intro v1 z1 z4 z5 H locs ls hf hP hD hS hl
    rw [f_X12_takesNext_b90] at hf
    refine lv_aload_n hx hb dX12_takesNext_90 rfl (lv_at hl 0 rfl) ?_
    refine va_get (D := D) (ci := 12) (v := .ref (ia 0)) (C := RX12) (T := TX12) (N := 35) hx hb hts kb_inX12 hown hK.1 hP 0 rfl rfl 28 (by decide) (hK.2.w ww_5_228 rfl _) (fun _ h9 => h9) rfl dX12_takesNext_91 ?_
    refine lv_iload_n hx hb dX12_takesNext_94 rfl (lv_at hl 1 rfl) ?_
    refine lv_iconst (v := (1 : Int32)) hx hb dX12_takesNext_95 (by decide) ?_
    refine lv_iadd hx hb dX12_takesNext_96 ?_
    refine lv_aload_n hx hb dX12_takesNext_97 rfl (lv_at hl 0 rfl) ?_
    refine va_get (D := D) (ci := 12) (v := .ref (ia 0)) (C := RX12) (T := TX12) (N := 35) hx hb hts kb_inX12 hown hK.1 hP 0 rfl rfl 28 (by decide) (hK.2.w ww_5_228 rfl _) (fun _ h9 => h9) rfl dX12_takesNext_98 ?_
    refine lv_iload_n hx hb dX12_takesNext_101 rfl (lv_at hl 1 rfl) ?_
    obtain ⟨h_10, hf⟩ := kb_if hf
    refine va_lald (D := D) hx hb hK.1 hP 5 2 rfl rfl h_10 dX12_takesNext_102 ?_
    refine lv_aload_n hx hb dX12_takesNext_103 rfl (lv_at hl 0 rfl) ?_
    refine va_get (D := D) (ci := 12) (v := .ref (ra 0)) (C := RX12) (T := TX12) (N := 35) hx hb hts kb_inX12 hown hK.1 hP 0 rfl rfl 29 (by decide) (hK.2.w ww_5_229 rfl _) (fun _ h9 => h9) rfl dX12_takesNext_104 ?_
    refine lv_iload_n hx hb dX12_takesNext_107 rfl (lv_at hl 1 rfl) ?_
    obtain ⟨h_11, hf⟩ := kb_if hf
    refine va_lald (D := D) hx hb hK.1 hP 6 2 rfl rfl h_11 dX12_takesNext_108 ?_
    refine lv_lmul hx hb dX12_takesNext_109 ?_
    obtain ⟨h_12, hf⟩ := kb_if hf
    refine va_last (D := D) hx hb hK.1 hP hD hS 5 2 rfl rfl h_12 dX12_takesNext_110 (fun H locs hP hD hS => ?_)
    have hP : va_P D vwCl (w_MO dA a (some (ba 0)) q1 g2 g3 g4 g5 (wa 0) g7 g8 g9 (na 0) (da 0) (fa 0) (ia 0) (ra 0) g15 g16 g17 g18 mo ++ (w_W dA wa z1 ++ (w_Coming dA na y_coming ++ (w_Ahead dA da y_ahead ++ (w_Left dA fa z4 ++ (w_Times dA ia (yTimes_set_r z5 (vp_updL (yTimes_r z5) ((v1 + (1 : Int32))).toNatClampNeg (((yTimes_r z5) (v1).toNatClampNeg) * ((yPart_r y_part) (v1).toNatClampNeg)))) ++ (w_Part dA ra y_part ++ (w_Bus dA ba bu)))))))) H := hP
    have hD : va_D A (w_MO dA a (some (ba 0)) q1 g2 g3 g4 g5 (wa 0) g7 g8 g9 (na 0) (da 0) (fa 0) (ia 0) (ra 0) g15 g16 g17 g18 mo ++ (w_W dA wa z1 ++ (w_Coming dA na y_coming ++ (w_Ahead dA da y_ahead ++ (w_Left dA fa z4 ++ (w_Times dA ia (yTimes_set_r z5 (vp_updL (yTimes_r z5) ((v1 + (1 : Int32))).toNatClampNeg (((yTimes_r z5) (v1).toNatClampNeg) * ((yPart_r y_part) (v1).toNatClampNeg)))) ++ (w_Part dA ra y_part ++ (w_Bus dA ba bu)))))))) := hD
    exact B_111 _ _ _ _ _ _ hf hP hD hS (lv_sub hl [] rfl)
  have B_81 : ∀ (v1 : Int32) (z1 : WT) (z4 : LeftT) (z5 : TimesT) (H : Heap) (locs : List Loc) (ls : Array Slot), f_X12_takesNext_b81 mo y_coming y_ahead y_part bu v1 z1 z4 z5 = some (u1, u4, u5) → va_P D vwCl (w_MO dA a (some (ba 0)) q1 g2 g3 g4 g5 (wa 0) g7 g8 g9 (na 0) (da 0) (fa 0) (ia 0) (ra 0) g15 g16 g17 g18 mo ++ (w_W dA wa z1 ++ (w_Coming dA na y_coming ++ (w_Ahead dA da y_ahead ++ (w_Left dA fa z4 ++ (w_Times dA ia z5 ++ (w_Part dA ra y_part ++ (w_Bus dA ba bu)))))))) H → va_D A (w_MO dA a (some (ba 0)) q1 g2 g3 g4 g5 (wa 0) g7 g8 g9 (na 0) (da 0) (fa 0) (ia 0) (ra 0) g15 g16 g17 g18 mo ++ (w_W dA wa z1 ++ (w_Coming dA na y_coming ++ (w_Ahead dA da y_ahead ++ (w_Left dA fa z4 ++ (w_Times dA ia z5 ++ (w_Part dA ra y_part ++ (w_Bus dA ba bu)))))))) → va_S A s.heap H locs → lv_has ls 4 [(0, .ref (a 0)), (1, .int v1)] → W p l e ({ frames := 4, cells := 0, slots := 0, locals := 88 } : Room) s m ([.ref (a 0), .int x0] : List Value).toArray below meth c H locs 0 0 Q (F0 m 81 ls []) := by
    intro v1 z1 z4 z5 H locs ls hf hP hD hS hl
    rw [f_X12_takesNext_b81] at hf
    refine lv_goto (tgt := 90) hx hb dX12_takesNext_81 (by decide) ?_
    exact B_90 _ _ _ _ _ _ _ hf hP hD hS (lv_sub hl [0, 1] rfl)
  have B_58 : ∀ (v1 : Int32) (v2 : Int32) (z1 : WT) (z4 : LeftT) (z5 : TimesT) (H : Heap) (locs : List Loc) (ls : Array Slot), f_X12_takesNext_b58 mo y_coming y_ahead y_part bu v1 v2 z1 z4 z5 = some (u1, u4, u5) → va_P D vwCl (w_MO dA a (some (ba 0)) q1 g2 g3 g4 g5 (wa 0) g7 g8 g9 (na 0) (da 0) (fa 0) (ia 0) (ra 0) g15 g16 g17 g18 mo ++ (w_W dA wa z1 ++ (w_Coming dA na y_coming ++ (w_Ahead dA da y_ahead ++ (w_Left dA fa z4 ++ (w_Times dA ia z5 ++ (w_Part dA ra y_part ++ (w_Bus dA ba bu)))))))) H → va_D A (w_MO dA a (some (ba 0)) q1 g2 g3 g4 g5 (wa 0) g7 g8 g9 (na 0) (da 0) (fa 0) (ia 0) (ra 0) g15 g16 g17 g18 mo ++ (w_W dA wa z1 ++ (w_Coming dA na y_coming ++ (w_Ahead dA da y_ahead ++ (w_Left dA fa z4 ++ (w_Times dA ia z5 ++ (w_Part dA ra y_part ++ (w_Bus dA ba bu)))))))) → va_S A s.heap H locs → lv_has ls 4 [(0, .ref (a 0)), (1, .int v1), (2, .int v2)] → W p l e ({ frames := 4, cells := 0, slots := 0, locals := 88 } : Room) s m ([.ref (a 0), .int x0] : List Value).toArray below meth c H locs 0 0 Q (F0 m 58 ls []) := by
    intro v1 v2 z1 z4 z5 H locs ls hf hP hD hS hl
    rw [f_X12_takesNext_b58] at hf
    refine lv_aload_n hx hb dX12_takesNext_58 rfl (lv_at hl 0 rfl) ?_
    refine va_get (D := D) (ci := 12) (v := .ref (na 0)) (C := RX12) (T := TX12) (N := 35) hx hb hts kb_inX12 hown hK.1 hP 0 rfl rfl 24 (by decide) (hK.2.w ww_5_224 rfl _) (fun _ h9 => h9) rfl dX12_takesNext_59 ?_
    refine lv_iload_n hx hb dX12_takesNext_62 rfl (lv_at hl 1 rfl) ?_
    obtain ⟨h_7, hf⟩ := kb_if hf
    refine va_iald (D := D) hx hb hK.1 hP 2 0 rfl rfl h_7 dX12_takesNext_63 ?_
    refine lv_istore_n (lv' := [(3, .int ((yComing_r y_coming) (v1).toNatClampNeg)), (0, .ref (a 0)), (1, .int v1), (2, .int v2)]) hx hb dX12_takesNext_64 rfl hl (by decide) rfl (fun ls hl => ?_)
    refine lv_iload_n hx hb dX12_takesNext_65 rfl (lv_at hl 3 rfl) ?_
    refine lv_bipush (v := (20 : Int32)) hx hb dX12_takesNext_66 (by decide) ?_
    refine lv_icmp_ne (tgt := 84) hx hb dX12_takesNext_68 (by decide) (fun c_8 => ?_) (fun c_8 => ?_)
    · rw [if_neg c_8] at hf
      refine lv_aload_n hx hb dX12_takesNext_84 rfl (lv_at hl 1 rfl) ?_
      refine lv_iload_n hx hb dX12_takesNext_85 rfl (lv_at hl 0 rfl) ?_
      refine lv_iload_n hx hb dX12_takesNext_86 rfl (lv_at hl 3 rfl) ?_
      obtain ⟨r9, hc9, hf⟩ := kb_bind hf
      refine kb_cv (ws2 := (w_MO dA a (some (ba 0)) q1 g2 g3 g4 g5 (wa 0) g7 g8 g9 (na 0) (da 0) (fa 0) (ia 0) (ra 0) g15 g16 g17 g18 mo ++ (w_W dA wa r9 ++ (w_Coming dA na y_coming ++ (w_Ahead dA da y_ahead ++ (w_Left dA fa z4 ++ (w_Times dA ia z5 ++ (w_Part dA ra y_part ++ (w_Bus dA ba bu))))))))) (kb_rV (n := 2) (As := [.int ((yComing_r y_coming) (v1).toNatClampNeg), .int v2]) (rest := []) hx hb hml hown hK (c_X12_sitsDown l D dA H.size a wa ba q1 g2 g3 g4 g5 g7 g8 g9 (na 0) (da 0) (fa 0) (ia 0) (ra 0) g15 g16 g17 g18 mo z1 bu ((yComing_r y_coming) (v1).toNatClampNeg) v2 r9 hc9) ⟨ww_7_167, ww_7_164, ww_7_166, ws_81, ww_1_12, rfl, by decide, by decide⟩ rfl rfl (by decide +kernel) ⟨Nat.le_of_ble_eq_true rfl, Nat.le_of_ble_eq_true rfl⟩ hP hD hS hA hE [0, 1, 7, 8, 9, 10, 11, 12, 13, 14, 15, 16, 17, 18, 19, 20, 21, 22] rfl (by decide) 0 rfl rfl rfl hl.1 rfl (Nat.le_of_ble_eq_true rfl) dX12_takesNext_87 ⟨Nat.le_of_ble_eq_true rfl, Nat.le_of_ble_eq_true rfl⟩) hP hD hS hA [0, 1, 7, 8, 9, 10, 11, 12, 13, 14, 15, 16, 17, 18, 19, 20, 21, 22] [2, 3, 4, 5, 6] [5, 6, 0, 1, 2, 3, 4, 7, 8, 9, 10, 11, 12, 13, 14, 15, 16, 17, 18, 19, 20, 21, 22] rfl rfl (by decide) (by decide) rfl (by decide) (fun H locs hP hD hS => ?_)
      exact B_90 _ _ _ _ _ _ _ hf hP hD hS (lv_sub hl [1, 2] rfl)
    · rw [if_pos c_8] at hf
      refine lv_aload_n hx hb dX12_takesNext_71 rfl (lv_at hl 1 rfl) ?_
      refine va_get (D := D) (ci := 12) (v := .ref (wa 0)) (C := RX12) (T := TX12) (N := 35) hx hb hts kb_inX12 hown hK.1 hP 0 rfl rfl 19 (by decide) (hK.2.w ww_5_219 rfl _) (fun _ h9 => h9) rfl dX12_takesNext_72 ?_
      refine lv_iconst (v := (0 : Int32)) hx hb dX12_takesNext_75 (by decide) ?_
      refine lv_iload_n hx hb dX12_takesNext_76 rfl (lv_at hl 0 rfl) ?_
      refine lv_iadd hx hb dX12_takesNext_77 ?_
      refine lv_bipush (v := (101 : Int32)) hx hb dX12_takesNext_78 (by decide) ?_
      obtain ⟨h_13, hf⟩ := kb_if hf
      refine va_iast (D := D) hx hb hK.1 hP hD hS 1 0 rfl rfl h_13 dX12_takesNext_80 (fun H locs hP hD hS => ?_)
      have hP : va_P D vwCl (w_MO dA a (some (ba 0)) q1 g2 g3 g4 g5 (wa 0) g7 g8 g9 (na 0) (da 0) (fa 0) (ia 0) (ra 0) g15 g16 g17 g18 mo ++ (w_W dA wa (yW_set_r z1 (upd (yW_r z1) (((0 : Int32) + ((yComing_r y_coming) (v1).toNatClampNeg))).toNatClampNeg (101 : Int32))) ++ (w_Coming dA na y_coming ++ (w_Ahead dA da y_ahead ++ (w_Left dA fa z4 ++ (w_Times dA ia z5 ++ (w_Part dA ra y_part ++ (w_Bus dA ba bu)))))))) H := hP
      have hD : va_D A (w_MO dA a (some (ba 0)) q1 g2 g3 g4 g5 (wa 0) g7 g8 g9 (na 0) (da 0) (fa 0) (ia 0) (ra 0) g15 g16 g17 g18 mo ++ (w_W dA wa (yW_set_r z1 (upd (yW_r z1) (((0 : Int32) + ((yComing_r y_coming) (v1).toNatClampNeg))).toNatClampNeg (101 : Int32))) ++ (w_Coming dA na y_coming ++ (w_Ahead dA da y_ahead ++ (w_Left dA fa z4 ++ (w_Times dA ia z5 ++ (w_Part dA ra y_part ++ (w_Bus dA ba bu)))))))) := hD
      exact B_81 _ _ _ _ _ _ _ hf hP hD hS (lv_sub hl [1, 2] rfl)
  have B_25 : ∀ (k2 : Int32 → Int32 → WT → LeftT → TimesT → Option (WT × LeftT × TimesT)) (hk2 : ∀ (v1 : Int32) (v2 : Int32) (z1 : WT) (z4 : LeftT) (z5 : TimesT) (H : Heap) (locs : List Loc) (ls : Array Slot), k2 v1 v2 z1 z4 z5 = some (u1, u4, u5) → va_P D vwCl (w_MO dA a (some (ba 0)) q1 g2 g3 g4 g5 (wa 0) g7 g8 g9 (na 0) (da 0) (fa 0) (ia 0) (ra 0) g15 g16 g17 g18 mo ++ (w_W dA wa z1 ++ (w_Coming dA na y_coming ++ (w_Ahead dA da y_ahead ++ (w_Left dA fa z4 ++ (w_Times dA ia z5 ++ (w_Part dA ra y_part ++ (w_Bus dA ba bu)))))))) H → va_D A (w_MO dA a (some (ba 0)) q1 g2 g3 g4 g5 (wa 0) g7 g8 g9 (na 0) (da 0) (fa 0) (ia 0) (ra 0) g15 g16 g17 g18 mo ++ (w_W dA wa z1 ++ (w_Coming dA na y_coming ++ (w_Ahead dA da y_ahead ++ (w_Left dA fa z4 ++ (w_Times dA ia z5 ++ (w_Part dA ra y_part ++ (w_Bus dA ba bu)))))))) → va_S A s.heap H locs → lv_has ls 4 [(0, .ref (a 0)), (1, .int v1), (2, .int v2)] → W p l e ({ frames := 4, cells := 0, slots := 0, locals := 88 } : Room) s m ([.ref (a 0), .int x0] : List Value).toArray below meth c H locs 0 0 Q (F0 m 2 ls [])) (v1 : Int32) (v2 : Int32) (z1 : WT) (z4 : LeftT) (z5 : TimesT) (H : Heap) (locs : List Loc) (ls : Array Slot), f_X12_takesNext_b25 mo y_coming y_ahead y_part bu k2 v1 v2 z1 z4 z5 = some (u1, u4, u5) → va_P D vwCl (w_MO dA a (some (ba 0)) q1 g2 g3 g4 g5 (wa 0) g7 g8 g9 (na 0) (da 0) (fa 0) (ia 0) (ra 0) g15 g16 g17 g18 mo ++ (w_W dA wa z1 ++ (w_Coming dA na y_coming ++ (w_Ahead dA da y_ahead ++ (w_Left dA fa z4 ++ (w_Times dA ia z5 ++ (w_Part dA ra y_part ++ (w_Bus dA ba bu)))))))) H → va_D A (w_MO dA a (some (ba 0)) q1 g2 g3 g4 g5 (wa 0) g7 g8 g9 (na 0) (da 0) (fa 0) (ia 0) (ra 0) g15 g16 g17 g18 mo ++ (w_W dA wa z1 ++ (w_Coming dA na y_coming ++ (w_Ahead dA da y_ahead ++ (w_Left dA fa z4 ++ (w_Times dA ia z5 ++ (w_Part dA ra y_part ++ (w_Bus dA ba bu)))))))) → va_S A s.heap H locs → lv_has ls 4 [(0, .ref (a 0)), (1, .int v1), (2, .int v2)] → W p l e ({ frames := 4, cells := 0, slots := 0, locals := 88 } : Room) s m ([.ref (a 0), .int x0] : List Value).toArray below meth c H locs 0 0 Q (F0 m 25 ls []) := by
    intro k2 hk2 v1 v2 z1 z4 z5 H locs ls hf hP hD hS hl
    rw [f_X12_takesNext_b25] at hf
    refine lv_iinc (v := (v2 + (1 : Int32))) (lv' := [(2, .int (v2 + (1 : Int32))), (0, .ref (a 0)), (1, .int v1)]) hx hb dX12_takesNext_25 hl (k := 2) rfl (by rfl) (by decide) rfl (fun ls hl => ?_)
    refine lv_goto (tgt := 2) hx hb dX12_takesNext_28 (by decide) ?_
    exact hk2 _ _ _ _ _ _ _ _ hf hP hD hS (lv_sub hl [1, 2, 0] rfl)
  have B_2 : ∀ (n : Nat) (v1 : Int32) (v2 : Int32) (z1 : WT) (z4 : LeftT) (z5 : TimesT) (H : Heap) (locs : List Loc) (ls : Array Slot), f_X12_takesNext_b2 mo y_coming y_ahead y_part bu n v1 v2 z1 z4 z5 = some (u1, u4, u5) → va_P D vwCl (w_MO dA a (some (ba 0)) q1 g2 g3 g4 g5 (wa 0) g7 g8 g9 (na 0) (da 0) (fa 0) (ia 0) (ra 0) g15 g16 g17 g18 mo ++ (w_W dA wa z1 ++ (w_Coming dA na y_coming ++ (w_Ahead dA da y_ahead ++ (w_Left dA fa z4 ++ (w_Times dA ia z5 ++ (w_Part dA ra y_part ++ (w_Bus dA ba bu)))))))) H → va_D A (w_MO dA a (some (ba 0)) q1 g2 g3 g4 g5 (wa 0) g7 g8 g9 (na 0) (da 0) (fa 0) (ia 0) (ra 0) g15 g16 g17 g18 mo ++ (w_W dA wa z1 ++ (w_Coming dA na y_coming ++ (w_Ahead dA da y_ahead ++ (w_Left dA fa z4 ++ (w_Times dA ia z5 ++ (w_Part dA ra y_part ++ (w_Bus dA ba bu)))))))) → va_S A s.heap H locs → lv_has ls 4 [(0, .ref (a 0)), (1, .int v1), (2, .int v2)] → W p l e ({ frames := 4, cells := 0, slots := 0, locals := 88 } : Room) s m ([.ref (a 0), .int x0] : List Value).toArray below meth c H locs 0 0 Q (F0 m 2 ls []) := by
    intro n
    induction n with
    | zero =>
      intro v1 v2 z1 z4 z5 H locs ls hf
      exact absurd hf (by simp [f_X12_takesNext_b2])
    | succ n ih =>
      intro v1 v2 z1 z4 z5 H locs ls hf hP hD hS hl
      rw [f_X12_takesNext_b2] at hf
      refine lv_iload_n hx hb dX12_takesNext_2 rfl (lv_at hl 2 rfl) ?_
      refine lv_bipush (v := (56 : Int32)) hx hb dX12_takesNext_3 (by decide) ?_
      refine lv_icmp_ge (tgt := 31) hx hb dX12_takesNext_5 (by decide) (fun c_1 => ?_) (fun c_1 => ?_)
      · rw [if_pos c_1] at hf
        refine lv_aload_n hx hb dX12_takesNext_31 rfl (lv_at hl 0 rfl) ?_
        refine va_get (D := D) (ci := 12) (v := .ref (fa 0)) (C := RX12) (T := TX12) (N := 35) hx hb hts kb_inX12 hown hK.1 hP 0 rfl rfl 27 (by decide) (hK.2.w ww_5_227 rfl _) (fun _ h9 => h9) rfl dX12_takesNext_32 ?_
        refine lv_iload_n hx hb dX12_takesNext_35 rfl (lv_at hl 1 rfl) ?_
        obtain ⟨h_2, hf⟩ := kb_if hf
        refine va_iald (D := D) hx hb hK.1 hP 4 0 rfl rfl h_2 dX12_takesNext_36 ?_
        obtain ⟨r3, hc3, hf⟩ := kb_bind hf
        refine kb_ci (ws2 := (w_MO dA a (some (ba 0)) q1 g2 g3 g4 g5 (wa 0) g7 g8 g9 (na 0) (da 0) (fa 0) (ia 0) (ra 0) g15 g16 g17 g18 mo ++ (w_W dA wa z1 ++ (w_Coming dA na y_coming ++ (w_Ahead dA da y_ahead ++ (w_Left dA fa z4 ++ (w_Times dA ia z5 ++ (w_Part dA ra y_part ++ (w_Bus dA ba bu))))))))) (kb_rS (n := 1) (As := [.int ((yLeft_r z4) (v1).toNatClampNeg)]) (rest := []) hx hb hml hown hK (c_X12_first l D dA H.size ((yLeft_r z4) (v1).toNatClampNeg) r3 hc3) ⟨ww_7_221, ww_7_219, ww_7_220, ww_1_12, by decide, by decide⟩ rfl rfl (by decide +kernel) ⟨Nat.le_of_ble_eq_true rfl, Nat.le_of_ble_eq_true rfl⟩ hP hD hS hA hE [] rfl (by decide) rfl hl.1 rfl (Nat.le_of_ble_eq_true rfl) dX12_takesNext_37 ⟨Nat.le_of_ble_eq_true rfl, Nat.le_of_ble_eq_true rfl⟩) hP hD hS hA [] [0, 1, 2, 3, 4, 5, 6, 7, 8, 9, 10, 11, 12, 13, 14, 15, 16, 17, 18, 19, 20, 21, 22] [0, 1, 2, 3, 4, 5, 6, 7, 8, 9, 10, 11, 12, 13, 14, 15, 16, 17, 18, 19, 20, 21, 22] rfl rfl (by decide) (by decide) rfl (by decide) (fun H locs hP hD hS => ?_)
        refine lv_istore_n (lv' := [(2, .int r3), (0, .ref (a 0)), (1, .int v1)]) hx hb dX12_takesNext_40 rfl hl (by decide) rfl (fun ls hl => ?_)
        refine lv_aload_n hx hb dX12_takesNext_41 rfl (lv_at hl 1 rfl) ?_
        refine va_get (D := D) (ci := 12) (v := .ref (fa 0)) (C := RX12) (T := TX12) (N := 35) hx hb hts kb_inX12 hown hK.1 hP 0 rfl rfl 27 (by decide) (hK.2.w ww_5_227 rfl _) (fun _ h9 => h9) rfl dX12_takesNext_42 ?_
        refine lv_iload_n hx hb dX12_takesNext_45 rfl (lv_at hl 2 rfl) ?_
        refine lv_dup2_11 hx hb dX12_takesNext_46 rfl rfl ?_
        obtain ⟨h_4, hf⟩ := kb_if hf
        refine va_iald (D := D) hx hb hK.1 hP 4 0 rfl rfl h_4 dX12_takesNext_47 ?_
        refine lv_aload_n hx hb dX12_takesNext_48 rfl (lv_at hl 1 rfl) ?_
        refine va_get (D := D) (ci := 12) (v := .ref (fa 0)) (C := RX12) (T := TX12) (N := 35) hx hb hts kb_inX12 hown hK.1 hP 0 rfl rfl 27 (by decide) (hK.2.w ww_5_227 rfl _) (fun _ h9 => h9) rfl dX12_takesNext_49 ?_
        refine lv_iload_n hx hb dX12_takesNext_52 rfl (lv_at hl 2 rfl) ?_
        obtain ⟨h_5, hf⟩ := kb_if hf
        refine va_iald (D := D) hx hb hK.1 hP 4 0 rfl rfl h_5 dX12_takesNext_53 ?_
        refine lv_iconst (v := (1 : Int32)) hx hb dX12_takesNext_54 (by decide) ?_
        refine lv_isub hx hb dX12_takesNext_55 ?_
        refine lv_iand hx hb dX12_takesNext_56 ?_
        obtain ⟨h_6, hf⟩ := kb_if hf
        refine va_iast (D := D) hx hb hK.1 hP hD hS 4 0 rfl rfl h_6 dX12_takesNext_57 (fun H locs hP hD hS => ?_)
        have hP : va_P D vwCl (w_MO dA a (some (ba 0)) q1 g2 g3 g4 g5 (wa 0) g7 g8 g9 (na 0) (da 0) (fa 0) (ia 0) (ra 0) g15 g16 g17 g18 mo ++ (w_W dA wa z1 ++ (w_Coming dA na y_coming ++ (w_Ahead dA da y_ahead ++ (w_Left dA fa (yLeft_set_r z4 (upd (yLeft_r z4) (v1).toNatClampNeg (((yLeft_r z4) (v1).toNatClampNeg) &&& (((yLeft_r z4) (v1).toNatClampNeg) - (1 : Int32))))) ++ (w_Times dA ia z5 ++ (w_Part dA ra y_part ++ (w_Bus dA ba bu)))))))) H := hP
        have hD : va_D A (w_MO dA a (some (ba 0)) q1 g2 g3 g4 g5 (wa 0) g7 g8 g9 (na 0) (da 0) (fa 0) (ia 0) (ra 0) g15 g16 g17 g18 mo ++ (w_W dA wa z1 ++ (w_Coming dA na y_coming ++ (w_Ahead dA da y_ahead ++ (w_Left dA fa (yLeft_set_r z4 (upd (yLeft_r z4) (v1).toNatClampNeg (((yLeft_r z4) (v1).toNatClampNeg) &&& (((yLeft_r z4) (v1).toNatClampNeg) - (1 : Int32))))) ++ (w_Times dA ia z5 ++ (w_Part dA ra y_part ++ (w_Bus dA ba bu)))))))) := hD
        exact B_58 _ _ _ _ _ _ _ _ hf hP hD hS (lv_sub hl [1, 2, 0] rfl)
      · rw [if_neg c_1] at hf
        refine lv_aload_n hx hb dX12_takesNext_8 rfl (lv_at hl 0 rfl) ?_
        refine va_get (D := D) (ci := 12) (v := .ref (wa 0)) (C := RX12) (T := TX12) (N := 35) hx hb hts kb_inX12 hown hK.1 hP 0 rfl rfl 19 (by decide) (hK.2.w ww_5_219 rfl _) (fun _ h9 => h9) rfl dX12_takesNext_9 ?_
        refine lv_iload_n hx hb dX12_takesNext_12 rfl (lv_at hl 2 rfl) ?_
        refine lv_aload_n hx hb dX12_takesNext_13 rfl (lv_at hl 0 rfl) ?_
        refine va_get (D := D) (ci := 12) (v := .ref (da 0)) (C := RX12) (T := TX12) (N := 35) hx hb hts kb_inX12 hown hK.1 hP 0 rfl rfl 26 (by decide) (hK.2.w ww_5_226 rfl _) (fun _ h9 => h9) rfl dX12_takesNext_14 ?_
        refine lv_bipush (v := (56 : Int32)) hx hb dX12_takesNext_17 (by decide) ?_
        refine lv_iload_n hx hb dX12_takesNext_19 rfl (lv_at hl 1 rfl) ?_
        refine lv_imul hx hb dX12_takesNext_20 ?_
        refine lv_iload_n hx hb dX12_takesNext_21 rfl (lv_at hl 2 rfl) ?_
        refine lv_iadd hx hb dX12_takesNext_22 ?_
        obtain ⟨h_14, hf⟩ := kb_if hf
        refine va_iald (D := D) hx hb hK.1 hP 3 0 rfl rfl h_14 dX12_takesNext_23 ?_
        obtain ⟨h_15, hf⟩ := kb_if hf
        refine va_iast (D := D) hx hb hK.1 hP hD hS 1 0 rfl rfl h_15 dX12_takesNext_24 (fun H locs hP hD hS => ?_)
        have hP : va_P D vwCl (w_MO dA a (some (ba 0)) q1 g2 g3 g4 g5 (wa 0) g7 g8 g9 (na 0) (da 0) (fa 0) (ia 0) (ra 0) g15 g16 g17 g18 mo ++ (w_W dA wa (yW_set_r z1 (upd (yW_r z1) (v2).toNatClampNeg ((yAhead_r y_ahead) ((((56 : Int32) * v1) + v2)).toNatClampNeg))) ++ (w_Coming dA na y_coming ++ (w_Ahead dA da y_ahead ++ (w_Left dA fa z4 ++ (w_Times dA ia z5 ++ (w_Part dA ra y_part ++ (w_Bus dA ba bu)))))))) H := hP
        have hD : va_D A (w_MO dA a (some (ba 0)) q1 g2 g3 g4 g5 (wa 0) g7 g8 g9 (na 0) (da 0) (fa 0) (ia 0) (ra 0) g15 g16 g17 g18 mo ++ (w_W dA wa (yW_set_r z1 (upd (yW_r z1) (v2).toNatClampNeg ((yAhead_r y_ahead) ((((56 : Int32) * v1) + v2)).toNatClampNeg))) ++ (w_Coming dA na y_coming ++ (w_Ahead dA da y_ahead ++ (w_Left dA fa z4 ++ (w_Times dA ia z5 ++ (w_Part dA ra y_part ++ (w_Bus dA ba bu)))))))) := hD
        exact B_25 (f_X12_takesNext_b2 mo y_coming y_ahead y_part bu n) ih _ _ _ _ _ _ _ _ hf hP hD hS (lv_sub hl [0, 1, 2] rfl)
  have E0 : ∀ (H : Heap) (locs : List Loc), va_P D vwCl (w_MO dA a (some (ba 0)) q1 g2 g3 g4 g5 (wa 0) g7 g8 g9 (na 0) (da 0) (fa 0) (ia 0) (ra 0) g15 g16 g17 g18 mo ++ (w_W dA wa y_w ++ (w_Coming dA na y_coming ++ (w_Ahead dA da y_ahead ++ (w_Left dA fa y_left ++ (w_Times dA ia y_times ++ (w_Part dA ra y_part ++ (w_Bus dA ba bu)))))))) H → va_D A (w_MO dA a (some (ba 0)) q1 g2 g3 g4 g5 (wa 0) g7 g8 g9 (na 0) (da 0) (fa 0) (ia 0) (ra 0) g15 g16 g17 g18 mo ++ (w_W dA wa y_w ++ (w_Coming dA na y_coming ++ (w_Ahead dA da y_ahead ++ (w_Left dA fa y_left ++ (w_Times dA ia y_times ++ (w_Part dA ra y_part ++ (w_Bus dA ba bu)))))))) → va_S A s.heap H locs → W p l e ({ frames := 4, cells := 0, slots := 0, locals := 88 } : Room) s m ([.ref (a 0), .int x0] : List Value).toArray below meth c H locs 0 0 Q (F0 m 0 ls []) := by
    intro H locs hP hD hS
    rw [f_X12_takesNext] at hf
    refine lv_iconst (v := (0 : Int32)) hx hb dX12_takesNext_0 (by decide) ?_
    refine lv_istore_n (lv' := [(2, .int (0 : Int32)), (0, .ref (a 0)), (1, .int x0)]) hx hb dX12_takesNext_1 rfl hl (by decide) rfl (fun ls hl => ?_)
    exact B_2 4096 _ _ _ _ _ _ _ _ hf hP hD hS (lv_sub hl [1, 2, 0] rfl)
  exact E0 _ _ hP hD hS

noncomputable def f_X12_oddsOf_b64 (mo : MOT) (y_looks : LooksT) (y_coming : ComingT) (bu : BusT) (k17 : Int32 → Int32 → Int64 → Int32 → WT → WhoT → LookT → AheadT → LeftT → TimesT → PartT → Option (Int64 × WT × WhoT × LookT × AheadT × LeftT × TimesT × PartT)) (v1 : Int32) (v2 : Int32) (v3 : Int64) (v5 : Int32) (z1 : WT) (z3 : WhoT) (z4 : LookT) (z6 : AheadT) (z7 : LeftT) (z8 : TimesT) (z9 : PartT) : Option (Int64 × WT × WhoT × LookT × AheadT × LeftT × TimesT × PartT) := k17 v1 v2 v3 v5 z1 z3 z4 z6 z7 z8 z9
noncomputable def f_X12_oddsOf_b44 (mo : MOT) (y_looks : LooksT) (y_coming : ComingT) (bu : BusT) (k17 : Int32 → Int32 → Int64 → Int32 → WT → WhoT → LookT → AheadT → LeftT → TimesT → PartT → Option (Int64 × WT × WhoT × LookT × AheadT × LeftT × TimesT × PartT)) (v1 : Int32) (v2 : Int32) (v3 : Int64) (v5 : Int32) (z1 : WT) (z3 : WhoT) (z4 : LookT) (z6 : AheadT) (z7 : LeftT) (z8 : TimesT) (z9 : PartT) : Option (Int64 × WT × WhoT × LookT × AheadT × LeftT × TimesT × PartT) := (if (mo_comers mo) ≤ (v5 + (1 : Int32)) then if kb_in? ((0 : Int32) + v1) 56 then (if ((yW_r z1) (((0 : Int32) + v1)).toNatClampNeg) = v2 then if kb_in? (mo_comers mo) 5 then k17 v1 v2 (v3 + ((yTimes_r z8) ((mo_comers mo)).toNatClampNeg)) v5 z1 z3 z4 z6 z7 z8 z9 else none else k17 v1 v2 v3 v5 z1 z3 z4 z6 z7 z8 z9) else none else (f_X12_opens mo z1 y_looks z3 z4 y_coming z6 z7 z9 bu (v5 + (1 : Int32))).bind fun r11 => f_X12_oddsOf_b64 mo y_looks y_coming bu k17 v1 v2 v3 (v5 + (1 : Int32)) z1 r11.1 r11.2.1 r11.2.2.1 r11.2.2.2.1 z8 r11.2.2.2.2)
noncomputable def f_X12_oddsOf_b17 (mo : MOT) (y_looks : LooksT) (y_coming : ComingT) (bu : BusT) : Nat → Int32 → Int32 → Int64 → Int32 → WT → WhoT → LookT → AheadT → LeftT → TimesT → PartT → Option (Int64 × WT × WhoT × LookT × AheadT × LeftT × TimesT × PartT)
  | 0, _, _, _, _, _, _, _, _, _, _, _ => none
  | n + 1, v1, v2, v3, v5, z1, z3, z4, z6, z7, z8, z9 => (if v5 < 0 then some (v3, z1, z3, z4, z6, z7, z8, z9) else if kb_in? v5 4 then (if ((yLeft_r z7) (v5).toNatClampNeg) = 0 then f_X12_oddsOf_b17 mo y_looks y_coming bu n v1 v2 v3 (v5 + (-1 : Int32)) z1 z3 z4 z6 z7 z8 z9 else (f_X12_takesNext mo z1 y_coming z6 z7 z8 z9 bu v5).bind fun r6 => f_X12_oddsOf_b44 mo y_looks y_coming bu (f_X12_oddsOf_b17 mo y_looks y_coming bu n) v1 v2 v3 v5 r6.1 z3 z4 z6 r6.2.1 r6.2.2 z9) else none)
noncomputable def f_X12_oddsOf_b9 (mo : MOT) (y_looks : LooksT) (y_coming : ComingT) (bu : BusT) (v1 : Int32) (v2 : Int32) (v3 : Int64) (z1 : WT) (z3 : WhoT) (z4 : LookT) (z6 : AheadT) (z7 : LeftT) (z8 : TimesT) (z9 : PartT) : Option (Int64 × WT × WhoT × LookT × AheadT × LeftT × TimesT × PartT) := (f_X12_opens mo z1 y_looks z3 z4 y_coming z6 z7 z9 bu (0 : Int32)).bind fun r2 => f_X12_oddsOf_b17 mo y_looks y_coming bu 100000 v1 v2 v3 (0 : Int32) z1 r2.1 r2.2.1 r2.2.2.1 r2.2.2.2.1 z8 r2.2.2.2.2
noncomputable def f_X12_oddsOf (mo : MOT) (y_w : WT) (y_looks : LooksT) (y_who : WhoT) (y_look : LookT) (y_coming : ComingT) (y_ahead : AheadT) (y_left : LeftT) (y_times : TimesT) (y_part : PartT) (bu : BusT) (x0 : Int32) (x1 : Int32) : Option (Int64 × WT × WhoT × LookT × AheadT × LeftT × TimesT × PartT) := if kb_in? (0 : Int32) 5 then f_X12_oddsOf_b9 mo y_looks y_coming bu x0 x1 (0 : Int64) y_w y_who y_look y_ahead y_left (yTimes_set_r y_times (vp_updL (yTimes_r y_times) ((0 : Int32)).toNatClampNeg (1 : Int64))) y_part else none
set_option maxHeartbeats 4000000 in
set_option maxRecDepth 100000 in
theorem c_X12_oddsOf (l : Launch) (D : va_G) (dA : Nat → ClassId) (sz : Nat) (a : Nat → Nat) (wa : Nat → Nat) (la : Nat → Nat) (ha : Nat → Nat) (ca : Nat → Nat) (na : Nat → Nat) (da : Nat → Nat) (fa : Nat → Nat) (ia : Nat → Nat) (ra : Nat → Nat) (ba : Nat → Nat) (q1 : Option Nat) (g2 : Nat) (g3 : Nat) (g4 : Nat) (g5 : Nat) (g15 : Nat) (g16 : Nat) (g17 : Nat) (g18 : Nat) (mo : MOT) (y_w : WT) (y_looks : LooksT) (y_who : WhoT) (y_look : LookT) (y_coming : ComingT) (y_ahead : AheadT) (y_left : LeftT) (y_times : TimesT) (y_part : PartT) (bu : BusT) (x0 : Int32) (x1 : Int32) (rv : Int64) (u1 : WT) (u3 : WhoT) (u4 : LookT) (u6 : AheadT) (u7 : LeftT) (u8 : TimesT) (u9 : PartT) (hf : f_X12_oddsOf mo y_w y_looks y_who y_look y_coming y_ahead y_left y_times y_part bu x0 x1 = some (rv, u1, u3, u4, u6, u7, u8, u9)) : kb_Ml l yX12_oddsOf cX12_oddsOf 6 (some .long) ({ frames := 8, cells := 0, slots := 0, locals := 191 } : Room) D dA [.ref (a 0), .int x0, .int x1] sz (w_MO dA a (some (ba 0)) q1 g2 g3 g4 g5 (wa 0) (la 0) (ha 0) (ca 0) (na 0) (da 0) (fa 0) (ia 0) (ra 0) g15 g16 g17 g18 mo ++ (w_W dA wa y_w ++ (w_Looks dA la y_looks ++ (w_Who dA ha y_who ++ (w_Look dA ca y_look ++ (w_Coming dA na y_coming ++ (w_Ahead dA da y_ahead ++ (w_Left dA fa y_left ++ (w_Times dA ia y_times ++ (w_Part dA ra y_part ++ (w_Bus dA ba bu))))))))))) 0 0 rv (w_MO dA a (some (ba 0)) q1 g2 g3 g4 g5 (wa 0) (la 0) (ha 0) (ca 0) (na 0) (da 0) (fa 0) (ia 0) (ra 0) g15 g16 g17 g18 mo ++ (w_W dA wa u1 ++ (w_Looks dA la y_looks ++ (w_Who dA ha u3 ++ (w_Look dA ca u4 ++ (w_Coming dA na y_coming ++ (w_Ahead dA da u6 ++ (w_Left dA fa u7 ++ (w_Times dA ia u8 ++ (w_Part dA ra u9 ++ (w_Bus dA ba bu))))))))))) := by
  refine Met.ofW (cc := cX12_oddsOf) (maxL := 6) (ret := (some .long)) (by decide) rfl ?_
  intro p e s m args below meth c s₁ B hml hv
  obtain ⟨rfl, hsz, hP, hK, hD0, hE⟩ := hv
  have hx := B.exec
  have hb := B.bytes
  have hr := B.returns
  have hown : s.vm.findClass RX12 = some m.cls := findClass_of_methodNamed B.named
  have hlocks := B.notSynchronized
  have hts : ∀ w ∈ kb_gw, w.before ([.ref (a 0), .int x0, .int x1] : List Value).toArray s = true := fun w hw => hK.2.1 w hw _
  subst hsz
  have hD := hD0.self (sz := s.heap.size)
  generalize hAe : va_A (w_MO dA a (some (ba 0)) q1 g2 g3 g4 g5 (wa 0) (la 0) (ha 0) (ca 0) (na 0) (da 0) (fa 0) (ia 0) (ra 0) g15 g16 g17 g18 mo ++ (w_W dA wa y_w ++ (w_Looks dA la y_looks ++ (w_Who dA ha y_who ++ (w_Look dA ca y_look ++ (w_Coming dA na y_coming ++ (w_Ahead dA da y_ahead ++ (w_Left dA fa y_left ++ (w_Times dA ia y_times ++ (w_Part dA ra y_part ++ (w_Bus dA ba bu))))))))))) s.heap.size = A at hD hE ⊢
  have hA : ∀ q : Nat, s.heap.size ≤ q → A q := fun q h => by rw [← hAe]; exact Or.inr h
  have hS : va_S A s.heap s.heap [] := va_S.rf
  have hl := lv_entry ([.ref (a 0), .int x0, .int x1]) (n := 6) (Nat.le_of_ble_eq_true rfl)
  rw [lg_entry_eq]
  generalize (lg_sl ([.ref (a 0), .int x0, .int x1]) ++ List.replicate (6 - (lg_sl ([.ref (a 0), .int x0, .int x1])).length) Slot.unset).toArray = ls at hl ⊢
  have hl : lv_has ls 6 [(0, .ref (a 0)), (1, .int x0), (2, .int x1)] := hl
  generalize hQ : MQ below (va_Ql (fun r (_ : Unit) => r = rv) (kb_B D A (w_MO dA a (some (ba 0)) q1 g2 g3 g4 g5 (wa 0) (la 0) (ha 0) (ca 0) (na 0) (da 0) (fa 0) (ia 0) (ra 0) g15 g16 g17 g18 mo ++ (w_W dA wa u1 ++ (w_Looks dA la y_looks ++ (w_Who dA ha u3 ++ (w_Look dA ca u4 ++ (w_Coming dA na y_coming ++ (w_Ahead dA da u6 ++ (w_Left dA fa u7 ++ (w_Times dA ia u8 ++ (w_Part dA ra u9 ++ (w_Bus dA ba bu)))))))))))) A) ([.ref (a 0), .int x0, .int x1] : List Value).toArray s 0 0 A = Q
  show W p l e ({ frames := 8, cells := 0, slots := 0, locals := 191 } : Room) s m ([.ref (a 0), .int x0, .int x1] : List Value).toArray below meth c s.heap [] 0 0 Q (F0 m 0 ls [])
  have RET : ∀ (r2 : Int64) (w1 : WT) (w3 : WhoT) (w4 : LookT) (w6 : AheadT) (w7 : LeftT) (w8 : TimesT) (w9 : PartT) (H : Heap) (locs : List Loc) (ls : Array Slot) (pc : Nat), some (r2, w1, w3, w4, w6, w7, w8, w9) = some (rv, u1, u3, u4, u6, u7, u8, u9) → va_P D vwCl (w_MO dA a (some (ba 0)) q1 g2 g3 g4 g5 (wa 0) (la 0) (ha 0) (ca 0) (na 0) (da 0) (fa 0) (ia 0) (ra 0) g15 g16 g17 g18 mo ++ (w_W dA wa w1 ++ (w_Looks dA la y_looks ++ (w_Who dA ha w3 ++ (w_Look dA ca w4 ++ (w_Coming dA na y_coming ++ (w_Ahead dA da w6 ++ (w_Left dA fa w7 ++ (w_Times dA ia w8 ++ (w_Part dA ra w9 ++ (w_Bus dA ba bu))))))))))) H → va_D A (w_MO dA a (some (ba 0)) q1 g2 g3 g4 g5 (wa 0) (la 0) (ha 0) (ca 0) (na 0) (da 0) (fa 0) (ia 0) (ra 0) g15 g16 g17 g18 mo ++ (w_W dA wa w1 ++ (w_Looks dA la y_looks ++ (w_Who dA ha w3 ++ (w_Look dA ca w4 ++ (w_Coming dA na y_coming ++ (w_Ahead dA da w6 ++ (w_Left dA fa w7 ++ (w_Times dA ia w8 ++ (w_Part dA ra w9 ++ (w_Bus dA ba bu))))))))))) → va_S A s.heap H locs → decode cX12_oddsOf pc = .ok (.lreturn, 1) → W p l e ({ frames := 8, cells := 0, slots := 0, locals := 191 } : Room) s m ([.ref (a 0), .int x0, .int x1] : List Value).toArray below meth c H locs 0 0 Q (F0 m pc ls [.long r2]) := by
    intro r2 w1 w3 w4 w6 w7 w8 w9 H locs ls pc hq hP hD hS hd
    cases hq
    rw [← hQ]
    exact W.lret hx hb hr (fun t ht hW => ⟨⟨_, (), rfl, rfl, by rw [ht]; exact hP, hD⟩, hS.F ht⟩) hS.2.2 hd
  have B_64 : ∀ (k17 : Int32 → Int32 → Int64 → Int32 → WT → WhoT → LookT → AheadT → LeftT → TimesT → PartT → Option (Int64 × WT × WhoT × LookT × AheadT × LeftT × TimesT × PartT)) (hk17 : ∀ (v1 : Int32) (v2 : Int32) (v3 : Int64) (v5 : Int32) (z1 : WT) (z3 : WhoT) (z4 : LookT) (z6 : AheadT) (z7 : LeftT) (z8 : TimesT) (z9 : PartT) (H : Heap) (locs : List Loc) (ls : Array Slot), k17 v1 v2 v3 v5 z1 z3 z4 z6 z7 z8 z9 = some (rv, u1, u3, u4, u6, u7, u8, u9) → va_P D vwCl (w_MO dA a (some (ba 0)) q1 g2 g3 g4 g5 (wa 0) (la 0) (ha 0) (ca 0) (na 0) (da 0) (fa 0) (ia 0) (ra 0) g15 g16 g17 g18 mo ++ (w_W dA wa z1 ++ (w_Looks dA la y_looks ++ (w_Who dA ha z3 ++ (w_Look dA ca z4 ++ (w_Coming dA na y_coming ++ (w_Ahead dA da z6 ++ (w_Left dA fa z7 ++ (w_Times dA ia z8 ++ (w_Part dA ra z9 ++ (w_Bus dA ba bu))))))))))) H → va_D A (w_MO dA a (some (ba 0)) q1 g2 g3 g4 g5 (wa 0) (la 0) (ha 0) (ca 0) (na 0) (da 0) (fa 0) (ia 0) (ra 0) g15 g16 g17 g18 mo ++ (w_W dA wa z1 ++ (w_Looks dA la y_looks ++ (w_Who dA ha z3 ++ (w_Look dA ca z4 ++ (w_Coming dA na y_coming ++ (w_Ahead dA da z6 ++ (w_Left dA fa z7 ++ (w_Times dA ia z8 ++ (w_Part dA ra z9 ++ (w_Bus dA ba bu))))))))))) → va_S A s.heap H locs → lv_has ls 6 [(0, .ref (a 0)), (1, .int v1), (2, .int v2), (3, .long v3), (5, .int v5)] → W p l e ({ frames := 8, cells := 0, slots := 0, locals := 191 } : Room) s m ([.ref (a 0), .int x0, .int x1] : List Value).toArray below meth c H locs 0 0 Q (F0 m 17 ls [])) (v1 : Int32) (v2 : Int32) (v3 : Int64) (v5 : Int32) (z1 : WT) (z3 : WhoT) (z4 : LookT) (z6 : AheadT) (z7 : LeftT) (z8 : TimesT) (z9 : PartT) (H : Heap) (locs : List Loc) (ls : Array Slot), f_X12_oddsOf_b64 mo y_looks y_coming bu k17 v1 v2 v3 v5 z1 z3 z4 z6 z7 z8 z9 = some (rv, u1, u3, u4, u6, u7, u8, u9) → va_P D vwCl (w_MO dA a (some (ba 0)) q1 g2 g3 g4 g5 (wa 0) (la 0) (ha 0) (ca 0) (na 0) (da 0) (fa 0) (ia 0) (ra 0) g15 g16 g17 g18 mo ++ (w_W dA wa z1 ++ (w_Looks dA la y_looks ++ (w_Who dA ha z3 ++ (w_Look dA ca z4 ++ (w_Coming dA na y_coming ++ (w_Ahead dA da z6 ++ (w_Left dA fa z7 ++ (w_Times dA ia z8 ++ (w_Part dA ra z9 ++ (w_Bus dA ba bu))))))))))) H → va_D A (w_MO dA a (some (ba 0)) q1 g2 g3 g4 g5 (wa 0) (la 0) (ha 0) (ca 0) (na 0) (da 0) (fa 0) (ia 0) (ra 0) g15 g16 g17 g18 mo ++ (w_W dA wa z1 ++ (w_Looks dA la y_looks ++ (w_Who dA ha z3 ++ (w_Look dA ca z4 ++ (w_Coming dA na y_coming ++ (w_Ahead dA da z6 ++ (w_Left dA fa z7 ++ (w_Times dA ia z8 ++ (w_Part dA ra z9 ++ (w_Bus dA ba bu))))))))))) → va_S A s.heap H locs → lv_has ls 6 [(0, .ref (a 0)), (1, .int v1), (2, .int v2), (3, .long v3), (5, .int v5)] → W p l e ({ frames := 8, cells := 0, slots := 0, locals := 191 } : Room) s m ([.ref (a 0), .int x0, .int x1] : List Value).toArray below meth c H locs 0 0 Q (F0 m 64 ls []) := by
    intro k17 hk17 v1 v2 v3 v5 z1 z3 z4 z6 z7 z8 z9 H locs ls hf hP hD hS hl
    rw [f_X12_oddsOf_b64] at hf
    refine lv_goto (tgt := 17) hx hb dX12_oddsOf_64 (by decide) ?_
    exact hk17 _ _ _ _ _ _ _ _ _ _ _ _ _ _ hf hP hD hS (lv_sub hl [0, 1, 2, 3, 4] rfl)
  have B_44 : ∀ (k17 : Int32 → Int32 → Int64 → Int32 → WT → WhoT → LookT → AheadT → LeftT → TimesT → PartT → Option (Int64 × WT × WhoT × LookT × AheadT × LeftT × TimesT × PartT)) (hk17 : ∀ (v1 : Int32) (v2 : Int32) (v3 : Int64) (v5 : Int32) (z1 : WT) (z3 : WhoT) (z4 : LookT) (z6 : AheadT) (z7 : LeftT) (z8 : TimesT) (z9 : PartT) (H : Heap) (locs : List Loc) (ls : Array Slot), k17 v1 v2 v3 v5 z1 z3 z4 z6 z7 z8 z9 = some (rv, u1, u3, u4, u6, u7, u8, u9) → va_P D vwCl (w_MO dA a (some (ba 0)) q1 g2 g3 g4 g5 (wa 0) (la 0) (ha 0) (ca 0) (na 0) (da 0) (fa 0) (ia 0) (ra 0) g15 g16 g17 g18 mo ++ (w_W dA wa z1 ++ (w_Looks dA la y_looks ++ (w_Who dA ha z3 ++ (w_Look dA ca z4 ++ (w_Coming dA na y_coming ++ (w_Ahead dA da z6 ++ (w_Left dA fa z7 ++ (w_Times dA ia z8 ++ (w_Part dA ra z9 ++ (w_Bus dA ba bu))))))))))) H → va_D A (w_MO dA a (some (ba 0)) q1 g2 g3 g4 g5 (wa 0) (la 0) (ha 0) (ca 0) (na 0) (da 0) (fa 0) (ia 0) (ra 0) g15 g16 g17 g18 mo ++ (w_W dA wa z1 ++ (w_Looks dA la y_looks ++ (w_Who dA ha z3 ++ (w_Look dA ca z4 ++ (w_Coming dA na y_coming ++ (w_Ahead dA da z6 ++ (w_Left dA fa z7 ++ (w_Times dA ia z8 ++ (w_Part dA ra z9 ++ (w_Bus dA ba bu))))))))))) → va_S A s.heap H locs → lv_has ls 6 [(0, .ref (a 0)), (1, .int v1), (2, .int v2), (3, .long v3), (5, .int v5)] → W p l e ({ frames := 8, cells := 0, slots := 0, locals := 191 } : Room) s m ([.ref (a 0), .int x0, .int x1] : List Value).toArray below meth c H locs 0 0 Q (F0 m 17 ls [])) (v1 : Int32) (v2 : Int32) (v3 : Int64) (v5 : Int32) (z1 : WT) (z3 : WhoT) (z4 : LookT) (z6 : AheadT) (z7 : LeftT) (z8 : TimesT) (z9 : PartT) (H : Heap) (locs : List Loc) (ls : Array Slot), f_X12_oddsOf_b44 mo y_looks y_coming bu k17 v1 v2 v3 v5 z1 z3 z4 z6 z7 z8 z9 = some (rv, u1, u3, u4, u6, u7, u8, u9) → va_P D vwCl (w_MO dA a (some (ba 0)) q1 g2 g3 g4 g5 (wa 0) (la 0) (ha 0) (ca 0) (na 0) (da 0) (fa 0) (ia 0) (ra 0) g15 g16 g17 g18 mo ++ (w_W dA wa z1 ++ (w_Looks dA la y_looks ++ (w_Who dA ha z3 ++ (w_Look dA ca z4 ++ (w_Coming dA na y_coming ++ (w_Ahead dA da z6 ++ (w_Left dA fa z7 ++ (w_Times dA ia z8 ++ (w_Part dA ra z9 ++ (w_Bus dA ba bu))))))))))) H → va_D A (w_MO dA a (some (ba 0)) q1 g2 g3 g4 g5 (wa 0) (la 0) (ha 0) (ca 0) (na 0) (da 0) (fa 0) (ia 0) (ra 0) g15 g16 g17 g18 mo ++ (w_W dA wa z1 ++ (w_Looks dA la y_looks ++ (w_Who dA ha z3 ++ (w_Look dA ca z4 ++ (w_Coming dA na y_coming ++ (w_Ahead dA da z6 ++ (w_Left dA fa z7 ++ (w_Times dA ia z8 ++ (w_Part dA ra z9 ++ (w_Bus dA ba bu))))))))))) → va_S A s.heap H locs → lv_has ls 6 [(0, .ref (a 0)), (1, .int v1), (2, .int v2), (3, .long v3), (5, .int v5)] → W p l e ({ frames := 8, cells := 0, slots := 0, locals := 191 } : Room) s m ([.ref (a 0), .int x0, .int x1] : List Value).toArray below meth c H locs 0 0 Q (F0 m 44 ls []) := by
    intro k17 hk17 v1 v2 v3 v5 z1 z3 z4 z6 z7 z8 z9 H locs ls hf hP hD hS hl
    rw [f_X12_oddsOf_b44] at hf
    refine lv_iload hx hb dX12_oddsOf_44 (lv_at hl 4 rfl) ?_
    refine lv_iconst (v := (1 : Int32)) hx hb dX12_oddsOf_46 (by decide) ?_
    refine lv_iadd hx hb dX12_oddsOf_47 ?_
    refine lv_aload_n hx hb dX12_oddsOf_48 rfl (lv_at hl 0 rfl) ?_
    refine va_get (D := D) (ci := 12) (v := .int (mo_comers mo)) (C := RX12) (T := TX12) (N := 35) hx hb hts kb_inX12 hown hK.1 hP 0 rfl rfl 25 (by decide) (hK.2.w ww_5_225 rfl _) (fun _ h9 => h9) rfl dX12_oddsOf_49 ?_
    refine lv_icmp_ge (tgt := 67) hx hb dX12_oddsOf_52 (by decide) (fun c_7 => ?_) (fun c_7 => ?_)
    · rw [if_pos c_7] at hf
      refine lv_aload_n hx hb dX12_oddsOf_67 rfl (lv_at hl 0 rfl) ?_
      refine va_get (D := D) (ci := 12) (v := .ref (wa 0)) (C := RX12) (T := TX12) (N := 35) hx hb hts kb_inX12 hown hK.1 hP 0 rfl rfl 19 (by decide) (hK.2.w ww_5_219 rfl _) (fun _ h9 => h9) rfl dX12_oddsOf_68 ?_
      refine lv_iconst (v := (0 : Int32)) hx hb dX12_oddsOf_71 (by decide) ?_
      refine lv_iload_n hx hb dX12_oddsOf_72 rfl (lv_at hl 1 rfl) ?_
      refine lv_iadd hx hb dX12_oddsOf_73 ?_
      obtain ⟨h_8, hf⟩ := kb_if hf
      refine va_iald (D := D) hx hb hK.1 hP 1 0 rfl rfl h_8 dX12_oddsOf_74 ?_
      refine lv_iload_n hx hb dX12_oddsOf_75 rfl (lv_at hl 2 rfl) ?_
      refine lv_icmp_ne (tgt := 17) hx hb dX12_oddsOf_76 (by decide) (fun c_9 => ?_) (fun c_9 => ?_)
      · rw [if_neg c_9] at hf
        exact hk17 _ _ _ _ _ _ _ _ _ _ _ _ _ _ hf hP hD hS (lv_sub hl [0, 1, 2, 3, 4] rfl)
      · rw [if_pos c_9] at hf
        refine lv_lload_n hx hb dX12_oddsOf_79 rfl (lv_at hl 3 rfl) ?_
        refine lv_aload_n hx hb dX12_oddsOf_80 rfl (lv_at hl 0 rfl) ?_
        refine va_get (D := D) (ci := 12) (v := .ref (ia 0)) (C := RX12) (T := TX12) (N := 35) hx hb hts kb_inX12 hown hK.1 hP 0 rfl rfl 28 (by decide) (hK.2.w ww_5_228 rfl _) (fun _ h9 => h9) rfl dX12_oddsOf_81 ?_
        refine lv_aload_n hx hb dX12_oddsOf_84 rfl (lv_at hl 0 rfl) ?_
        refine va_get (D := D) (ci := 12) (v := .int (mo_comers mo)) (C := RX12) (T := TX12) (N := 35) hx hb hts kb_inX12 hown hK.1 hP 0 rfl rfl 25 (by decide) (hK.2.w ww_5_225 rfl _) (fun _ h9 => h9) rfl dX12_oddsOf_85 ?_
        obtain ⟨h_10, hf⟩ := kb_if hf
        refine va_lald (D := D) hx hb hK.1 hP 8 2 rfl rfl h_10 dX12_oddsOf_88 ?_
        refine lv_ladd hx hb dX12_oddsOf_89 ?_
        refine lv_lstore_n (lv' := [(3, .long (v3 + ((yTimes_r z8) ((mo_comers mo)).toNatClampNeg))), (0, .ref (a 0)), (1, .int v1), (2, .int v2), (5, .int v5)]) hx hb dX12_oddsOf_90 rfl hl (by decide) rfl (fun ls hl => ?_)
        refine lv_goto (tgt := 17) hx hb dX12_oddsOf_91 (by decide) ?_
        exact hk17 _ _ _ _ _ _ _ _ _ _ _ _ _ _ hf hP hD hS (lv_sub hl [1, 2, 3, 0, 4] rfl)
    · rw [if_neg c_7] at hf
      refine lv_iinc (v := (v5 + (1 : Int32))) (lv' := [(5, .int (v5 + (1 : Int32))), (0, .ref (a 0)), (1, .int v1), (2, .int v2), (3, .long v3)]) hx hb dX12_oddsOf_55 hl (k := 4) rfl (by rfl) (by decide) rfl (fun ls hl => ?_)
      refine lv_aload_n hx hb dX12_oddsOf_58 rfl (lv_at hl 1 rfl) ?_
      refine lv_iload hx hb dX12_oddsOf_59 (lv_at hl 0 rfl) ?_
      obtain ⟨r11, hc11, hf⟩ := kb_bind hf
      refine kb_cv (ws2 := (w_MO dA a (some (ba 0)) q1 g2 g3 g4 g5 (wa 0) (la 0) (ha 0) (ca 0) (na 0) (da 0) (fa 0) (ia 0) (ra 0) g15 g16 g17 g18 mo ++ (w_W dA wa z1 ++ (w_Looks dA la y_looks ++ (w_Who dA ha r11.1 ++ (w_Look dA ca r11.2.1 ++ (w_Coming dA na y_coming ++ (w_Ahead dA da r11.2.2.1 ++ (w_Left dA fa r11.2.2.2.1 ++ (w_Times dA ia z8 ++ (w_Part dA ra r11.2.2.2.2 ++ (w_Bus dA ba bu)))))))))))) (kb_rV (n := 1) (As := [.int (v5 + (1 : Int32))]) (rest := []) hx hb hml hown hK (c_X12_opens l D dA H.size a wa la ha ca na da fa ra ba q1 g2 g3 g4 g5 (ia 0) g15 g16 g17 g18 mo z1 y_looks z3 z4 y_coming z6 z7 z9 bu (v5 + (1 : Int32)) r11.1 r11.2.1 r11.2.2.1 r11.2.2.2.1 r11.2.2.2.2 hc11) ⟨ww_8_96, ww_8_93, ww_8_95, ws_104, ww_1_12, rfl, by decide, by decide⟩ rfl rfl (by decide +kernel) ⟨Nat.le_of_ble_eq_true rfl, Nat.le_of_ble_eq_true rfl⟩ hP hD hS hA hE [0, 1, 2, 3, 4, 5, 6, 7, 9, 10, 11, 12, 13, 14, 15, 16, 17, 18, 19, 20, 21, 22, 23, 24, 25] rfl (by decide) 0 rfl rfl rfl hl.1 rfl (Nat.le_of_ble_eq_true rfl) dX12_oddsOf_61 ⟨Nat.le_of_ble_eq_true rfl, Nat.le_of_ble_eq_true rfl⟩) hP hD hS hA [0, 1, 2, 3, 4, 5, 6, 7, 9, 10, 11, 12, 13, 14, 15, 16, 17, 18, 19, 20, 21, 22, 23, 24, 25] [8] [1, 2, 3, 4, 5, 6, 7, 8, 0, 9, 10, 11, 12, 13, 14, 15, 16, 17, 18, 19, 20, 21, 22, 23, 24, 25] rfl rfl (by decide) (by decide) rfl (by decide) (fun H locs hP hD hS => ?_)
      exact B_64 k17 hk17 _ _ _ _ _ _ _ _ _ _ _ _ _ _ hf hP hD hS (lv_sub hl [1, 2, 3, 4, 0] rfl)
  have B_17 : ∀ (n : Nat) (v1 : Int32) (v2 : Int32) (v3 : Int64) (v5 : Int32) (z1 : WT) (z3 : WhoT) (z4 : LookT) (z6 : AheadT) (z7 : LeftT) (z8 : TimesT) (z9 : PartT) (H : Heap) (locs : List Loc) (ls : Array Slot), f_X12_oddsOf_b17 mo y_looks y_coming bu n v1 v2 v3 v5 z1 z3 z4 z6 z7 z8 z9 = some (rv, u1, u3, u4, u6, u7, u8, u9) → va_P D vwCl (w_MO dA a (some (ba 0)) q1 g2 g3 g4 g5 (wa 0) (la 0) (ha 0) (ca 0) (na 0) (da 0) (fa 0) (ia 0) (ra 0) g15 g16 g17 g18 mo ++ (w_W dA wa z1 ++ (w_Looks dA la y_looks ++ (w_Who dA ha z3 ++ (w_Look dA ca z4 ++ (w_Coming dA na y_coming ++ (w_Ahead dA da z6 ++ (w_Left dA fa z7 ++ (w_Times dA ia z8 ++ (w_Part dA ra z9 ++ (w_Bus dA ba bu))))))))))) H → va_D A (w_MO dA a (some (ba 0)) q1 g2 g3 g4 g5 (wa 0) (la 0) (ha 0) (ca 0) (na 0) (da 0) (fa 0) (ia 0) (ra 0) g15 g16 g17 g18 mo ++ (w_W dA wa z1 ++ (w_Looks dA la y_looks ++ (w_Who dA ha z3 ++ (w_Look dA ca z4 ++ (w_Coming dA na y_coming ++ (w_Ahead dA da z6 ++ (w_Left dA fa z7 ++ (w_Times dA ia z8 ++ (w_Part dA ra z9 ++ (w_Bus dA ba bu))))))))))) → va_S A s.heap H locs → lv_has ls 6 [(0, .ref (a 0)), (1, .int v1), (2, .int v2), (3, .long v3), (5, .int v5)] → W p l e ({ frames := 8, cells := 0, slots := 0, locals := 191 } : Room) s m ([.ref (a 0), .int x0, .int x1] : List Value).toArray below meth c H locs 0 0 Q (F0 m 17 ls []) := by
    intro n
    induction n with
    | zero =>
      intro v1 v2 v3 v5 z1 z3 z4 z6 z7 z8 z9 H locs ls hf
      exact absurd hf (by simp [f_X12_oddsOf_b17])
    | succ n ih =>
      intro v1 v2 v3 v5 z1 z3 z4 z6 z7 z8 z9 H locs ls hf hP hD hS hl
      rw [f_X12_oddsOf_b17] at hf
      refine lv_iload hx hb dX12_oddsOf_17 (lv_at hl 4 rfl) ?_
      refine lv_if_lt (tgt := 94) hx hb dX12_oddsOf_19 (by decide) (fun c_3 => ?_) (fun c_3 => ?_)
      · rw [if_pos c_3] at hf
        refine lv_lload_n hx hb dX12_oddsOf_94 rfl (lv_at hl 3 rfl) ?_
        exact RET _ _ _ _ _ _ _ _ H _ ls 95 hf hP hD hS dX12_oddsOf_95
      · rw [if_neg c_3] at hf
        refine lv_aload_n hx hb dX12_oddsOf_22 rfl (lv_at hl 0 rfl) ?_
        refine va_get (D := D) (ci := 12) (v := .ref (fa 0)) (C := RX12) (T := TX12) (N := 35) hx hb hts kb_inX12 hown hK.1 hP 0 rfl rfl 27 (by decide) (hK.2.w ww_5_227 rfl _) (fun _ h9 => h9) rfl dX12_oddsOf_23 ?_
        refine lv_iload hx hb dX12_oddsOf_26 (lv_at hl 4 rfl) ?_
        obtain ⟨h_4, hf⟩ := kb_if hf
        refine va_iald (D := D) hx hb hK.1 hP 7 0 rfl rfl h_4 dX12_oddsOf_28 ?_
        refine lv_if_ne (tgt := 38) hx hb dX12_oddsOf_29 (by decide) (fun c_5 => ?_) (fun c_5 => ?_)
        · rw [if_neg c_5] at hf
          refine lv_aload_n hx hb dX12_oddsOf_38 rfl (lv_at hl 0 rfl) ?_
          refine lv_iload hx hb dX12_oddsOf_39 (lv_at hl 4 rfl) ?_
          obtain ⟨r6, hc6, hf⟩ := kb_bind hf
          refine kb_cv (ws2 := (w_MO dA a (some (ba 0)) q1 g2 g3 g4 g5 (wa 0) (la 0) (ha 0) (ca 0) (na 0) (da 0) (fa 0) (ia 0) (ra 0) g15 g16 g17 g18 mo ++ (w_W dA wa r6.1 ++ (w_Looks dA la y_looks ++ (w_Who dA ha z3 ++ (w_Look dA ca z4 ++ (w_Coming dA na y_coming ++ (w_Ahead dA da z6 ++ (w_Left dA fa r6.2.1 ++ (w_Times dA ia r6.2.2 ++ (w_Part dA ra z9 ++ (w_Bus dA ba bu)))))))))))) (kb_rV (n := 1) (As := [.int v5]) (rest := []) hx hb hml hown hK (c_X12_takesNext l D dA H.size a wa na da fa ia ra ba q1 g2 g3 g4 g5 (la 0) (ha 0) (ca 0) g15 g16 g17 g18 mo z1 y_coming z6 z7 z8 z9 bu v5 r6.1 r6.2.1 r6.2.2 hc6) ⟨ww_8_101, ww_8_98, ww_8_100, ws_105, ww_1_12, rfl, by decide, by decide⟩ rfl rfl (by decide +kernel) ⟨Nat.le_of_ble_eq_true rfl, Nat.le_of_ble_eq_true rfl⟩ hP hD hS hA hE [0, 1, 5, 6, 7, 8, 9, 10, 11, 12, 13, 14, 15, 16, 17, 18, 19, 20, 21, 22, 23, 24, 25] rfl (by decide) 0 rfl rfl rfl hl.1 rfl (Nat.le_of_ble_eq_true rfl) dX12_oddsOf_41 ⟨Nat.le_of_ble_eq_true rfl, Nat.le_of_ble_eq_true rfl⟩) hP hD hS hA [0, 1, 5, 6, 7, 8, 9, 10, 11, 12, 13, 14, 15, 16, 17, 18, 19, 20, 21, 22, 23, 24, 25] [2, 3, 4] [3, 4, 0, 1, 2, 5, 6, 7, 8, 9, 10, 11, 12, 13, 14, 15, 16, 17, 18, 19, 20, 21, 22, 23, 24, 25] rfl rfl (by decide) (by decide) rfl (by decide) (fun H locs hP hD hS => ?_)
          exact B_44 (f_X12_oddsOf_b17 mo y_looks y_coming bu n) ih _ _ _ _ _ _ _ _ _ _ _ _ _ _ hf hP hD hS (lv_sub hl [0, 1, 2, 3, 4] rfl)
        · rw [if_pos c_5] at hf
          refine lv_iinc (v := (v5 + (-1 : Int32))) (lv' := [(5, .int (v5 + (-1 : Int32))), (0, .ref (a 0)), (1, .int v1), (2, .int v2), (3, .long v3)]) hx hb dX12_oddsOf_32 hl (k := 4) rfl (by rfl) (by decide) rfl (fun ls hl => ?_)
          refine lv_goto (tgt := 17) hx hb dX12_oddsOf_35 (by decide) ?_
          exact ih _ _ _ _ _ _ _ _ _ _ _ _ _ _ hf hP hD hS (lv_sub hl [1, 2, 3, 4, 0] rfl)
  have B_9 : ∀ (v1 : Int32) (v2 : Int32) (v3 : Int64) (z1 : WT) (z3 : WhoT) (z4 : LookT) (z6 : AheadT) (z7 : LeftT) (z8 : TimesT) (z9 : PartT) (H : Heap) (locs : List Loc) (ls : Array Slot), f_X12_oddsOf_b9 mo y_looks y_coming bu v1 v2 v3 z1 z3 z4 z6 z7 z8 z9 = some (rv, u1, u3, u4, u6, u7, u8, u9) → va_P D vwCl (w_MO dA a (some (ba 0)) q1 g2 g3 g4 g5 (wa 0) (la 0) (ha 0) (ca 0) (na 0) (da 0) (fa 0) (ia 0) (ra 0) g15 g16 g17 g18 mo ++ (w_W dA wa z1 ++ (w_Looks dA la y_looks ++ (w_Who dA ha z3 ++ (w_Look dA ca z4 ++ (w_Coming dA na y_coming ++ (w_Ahead dA da z6 ++ (w_Left dA fa z7 ++ (w_Times dA ia z8 ++ (w_Part dA ra z9 ++ (w_Bus dA ba bu))))))))))) H → va_D A (w_MO dA a (some (ba 0)) q1 g2 g3 g4 g5 (wa 0) (la 0) (ha 0) (ca 0) (na 0) (da 0) (fa 0) (ia 0) (ra 0) g15 g16 g17 g18 mo ++ (w_W dA wa z1 ++ (w_Looks dA la y_looks ++ (w_Who dA ha z3 ++ (w_Look dA ca z4 ++ (w_Coming dA na y_coming ++ (w_Ahead dA da z6 ++ (w_Left dA fa z7 ++ (w_Times dA ia z8 ++ (w_Part dA ra z9 ++ (w_Bus dA ba bu))))))))))) → va_S A s.heap H locs → lv_has ls 6 [(0, .ref (a 0)), (1, .int v1), (2, .int v2), (3, .long v3)] → W p l e ({ frames := 8, cells := 0, slots := 0, locals := 191 } : Room) s m ([.ref (a 0), .int x0, .int x1] : List Value).toArray below meth c H locs 0 0 Q (F0 m 9 ls []) := by
    intro v1 v2 v3 z1 z3 z4 z6 z7 z8 z9 H locs ls hf hP hD hS hl
    rw [f_X12_oddsOf_b9] at hf
    refine lv_iconst (v := (0 : Int32)) hx hb dX12_oddsOf_9 (by decide) ?_
    refine lv_istore (lv' := [(5, .int (0 : Int32)), (0, .ref (a 0)), (1, .int v1), (2, .int v2), (3, .long v3)]) hx hb dX12_oddsOf_10 hl (by decide) rfl (fun ls hl => ?_)
    refine lv_aload_n hx hb dX12_oddsOf_12 rfl (lv_at hl 1 rfl) ?_
    refine lv_iconst (v := (0 : Int32)) hx hb dX12_oddsOf_13 (by decide) ?_
    obtain ⟨r2, hc2, hf⟩ := kb_bind hf
    refine kb_cv (ws2 := (w_MO dA a (some (ba 0)) q1 g2 g3 g4 g5 (wa 0) (la 0) (ha 0) (ca 0) (na 0) (da 0) (fa 0) (ia 0) (ra 0) g15 g16 g17 g18 mo ++ (w_W dA wa z1 ++ (w_Looks dA la y_looks ++ (w_Who dA ha r2.1 ++ (w_Look dA ca r2.2.1 ++ (w_Coming dA na y_coming ++ (w_Ahead dA da r2.2.2.1 ++ (w_Left dA fa r2.2.2.2.1 ++ (w_Times dA ia z8 ++ (w_Part dA ra r2.2.2.2.2 ++ (w_Bus dA ba bu)))))))))))) (kb_rV (n := 1) (As := [.int (0 : Int32)]) (rest := []) hx hb hml hown hK (c_X12_opens l D dA H.size a wa la ha ca na da fa ra ba q1 g2 g3 g4 g5 (ia 0) g15 g16 g17 g18 mo z1 y_looks z3 z4 y_coming z6 z7 z9 bu (0 : Int32) r2.1 r2.2.1 r2.2.2.1 r2.2.2.2.1 r2.2.2.2.2 hc2) ⟨ww_8_96, ww_8_93, ww_8_95, ws_104, ww_1_12, rfl, by decide, by decide⟩ rfl rfl (by decide +kernel) ⟨Nat.le_of_ble_eq_true rfl, Nat.le_of_ble_eq_true rfl⟩ hP hD hS hA hE [0, 1, 2, 3, 4, 5, 6, 7, 9, 10, 11, 12, 13, 14, 15, 16, 17, 18, 19, 20, 21, 22, 23, 24, 25] rfl (by decide) 0 rfl rfl rfl hl.1 rfl (Nat.le_of_ble_eq_true rfl) dX12_oddsOf_14 ⟨Nat.le_of_ble_eq_true rfl, Nat.le_of_ble_eq_true rfl⟩) hP hD hS hA [0, 1, 2, 3, 4, 5, 6, 7, 9, 10, 11, 12, 13, 14, 15, 16, 17, 18, 19, 20, 21, 22, 23, 24, 25] [8] [1, 2, 3, 4, 5, 6, 7, 8, 0, 9, 10, 11, 12, 13, 14, 15, 16, 17, 18, 19, 20, 21, 22, 23, 24, 25] rfl rfl (by decide) (by decide) rfl (by decide) (fun H locs hP hD hS => ?_)
    exact B_17 100000 _ _ _ _ _ _ _ _ _ _ _ _ _ _ hf hP hD hS (lv_sub hl [1, 2, 3, 4, 0] rfl)
  have E0 : ∀ (H : Heap) (locs : List Loc), va_P D vwCl (w_MO dA a (some (ba 0)) q1 g2 g3 g4 g5 (wa 0) (la 0) (ha 0) (ca 0) (na 0) (da 0) (fa 0) (ia 0) (ra 0) g15 g16 g17 g18 mo ++ (w_W dA wa y_w ++ (w_Looks dA la y_looks ++ (w_Who dA ha y_who ++ (w_Look dA ca y_look ++ (w_Coming dA na y_coming ++ (w_Ahead dA da y_ahead ++ (w_Left dA fa y_left ++ (w_Times dA ia y_times ++ (w_Part dA ra y_part ++ (w_Bus dA ba bu))))))))))) H → va_D A (w_MO dA a (some (ba 0)) q1 g2 g3 g4 g5 (wa 0) (la 0) (ha 0) (ca 0) (na 0) (da 0) (fa 0) (ia 0) (ra 0) g15 g16 g17 g18 mo ++ (w_W dA wa y_w ++ (w_Looks dA la y_looks ++ (w_Who dA ha y_who ++ (w_Look dA ca y_look ++ (w_Coming dA na y_coming ++ (w_Ahead dA da y_ahead ++ (w_Left dA fa y_left ++ (w_Times dA ia y_times ++ (w_Part dA ra y_part ++ (w_Bus dA ba bu))))))))))) → va_S A s.heap H locs → W p l e ({ frames := 8, cells := 0, slots := 0, locals := 191 } : Room) s m ([.ref (a 0), .int x0, .int x1] : List Value).toArray below meth c H locs 0 0 Q (F0 m 0 ls []) := by
    intro H locs hP hD hS
    rw [f_X12_oddsOf] at hf
    refine lv_lconst (v := (0 : Int64)) hx hb dX12_oddsOf_0 (by decide) ?_
    refine lv_lstore_n (lv' := [(3, .long (0 : Int64)), (0, .ref (a 0)), (1, .int x0), (2, .int x1)]) hx hb dX12_oddsOf_1 rfl hl (by decide) rfl (fun ls hl => ?_)
    refine lv_aload_n hx hb dX12_oddsOf_2 rfl (lv_at hl 1 rfl) ?_
    refine va_get (D := D) (ci := 12) (v := .ref (ia 0)) (C := RX12) (T := TX12) (N := 35) hx hb hts kb_inX12 hown hK.1 hP 0 rfl rfl 28 (by decide) (hK.2.w ww_5_228 rfl _) (fun _ h9 => h9) rfl dX12_oddsOf_3 ?_
    refine lv_iconst (v := (0 : Int32)) hx hb dX12_oddsOf_6 (by decide) ?_
    refine lv_lconst (v := (1 : Int64)) hx hb dX12_oddsOf_7 (by decide) ?_
    obtain ⟨h_1, hf⟩ := kb_if hf
    refine va_last (D := D) hx hb hK.1 hP hD hS 8 2 rfl rfl h_1 dX12_oddsOf_8 (fun H locs hP hD hS => ?_)
    have hP : va_P D vwCl (w_MO dA a (some (ba 0)) q1 g2 g3 g4 g5 (wa 0) (la 0) (ha 0) (ca 0) (na 0) (da 0) (fa 0) (ia 0) (ra 0) g15 g16 g17 g18 mo ++ (w_W dA wa y_w ++ (w_Looks dA la y_looks ++ (w_Who dA ha y_who ++ (w_Look dA ca y_look ++ (w_Coming dA na y_coming ++ (w_Ahead dA da y_ahead ++ (w_Left dA fa y_left ++ (w_Times dA ia (yTimes_set_r y_times (vp_updL (yTimes_r y_times) ((0 : Int32)).toNatClampNeg (1 : Int64))) ++ (w_Part dA ra y_part ++ (w_Bus dA ba bu))))))))))) H := hP
    have hD : va_D A (w_MO dA a (some (ba 0)) q1 g2 g3 g4 g5 (wa 0) (la 0) (ha 0) (ca 0) (na 0) (da 0) (fa 0) (ia 0) (ra 0) g15 g16 g17 g18 mo ++ (w_W dA wa y_w ++ (w_Looks dA la y_looks ++ (w_Who dA ha y_who ++ (w_Look dA ca y_look ++ (w_Coming dA na y_coming ++ (w_Ahead dA da y_ahead ++ (w_Left dA fa y_left ++ (w_Times dA ia (yTimes_set_r y_times (vp_updL (yTimes_r y_times) ((0 : Int32)).toNatClampNeg (1 : Int64))) ++ (w_Part dA ra y_part ++ (w_Bus dA ba bu))))))))))) := hD
    exact B_9 _ _ _ _ _ _ _ _ _ _ _ _ _ hf hP hD hS (lv_sub hl [1, 2, 3, 0] rfl)
  exact E0 _ _ hP hD hS

noncomputable def f_X12_odds_b21 (y_w : WT) (y_looks : LooksT) (bu : BusT) (z0 : MOT) (z3 : WhoT) (z4 : LookT) (z5 : ComingT) (z6 : AheadT) (z7 : LeftT) (z8 : TimesT) (z9 : PartT) (z11 : WT) : Option (Int64 × MOT × WhoT × LookT × ComingT × AheadT × LeftT × TimesT × PartT × WT) := (f_X12_refused z0 (1 : Int32)).bind fun r3 => some ((r3.1).toInt64, r3.2, z3, z4, z5, z6, z7, z8, z9, z11)
noncomputable def f_X12_odds_b125 (y_w : WT) (y_looks : LooksT) (bu : BusT) (v3 : Int64) (z0 : MOT) (z3 : WhoT) (z4 : LookT) (z5 : ComingT) (z6 : AheadT) (z7 : LeftT) (z8 : TimesT) (z9 : PartT) (z11 : WT) : Option (Int64 × MOT × WhoT × LookT × ComingT × AheadT × LeftT × TimesT × PartT × WT) := (f_X12_doneLong z0 v3).bind fun r15 => some (r15.1, r15.2, z3, z4, z5, z6, z7, z8, z9, z11)
noncomputable def f_X12_odds_b118 (y_w : WT) (y_looks : LooksT) (bu : BusT) (v1 : Int32) (v2 : Int32) (z0 : MOT) (z3 : WhoT) (z4 : LookT) (z5 : ComingT) (z6 : AheadT) (z7 : LeftT) (z8 : TimesT) (z9 : PartT) (z11 : WT) : Option (Int64 × MOT × WhoT × LookT × ComingT × AheadT × LeftT × TimesT × PartT × WT) := (f_X12_oddsOf z0 z11 y_looks z3 z4 z5 z6 z7 z8 z9 bu v1 v2).bind fun r14 => f_X12_odds_b125 y_w y_looks bu r14.1 z0 r14.2.2.1 r14.2.2.2.1 z5 r14.2.2.2.2.1 r14.2.2.2.2.2.1 r14.2.2.2.2.2.2.1 r14.2.2.2.2.2.2.2 r14.2.1
noncomputable def f_X12_odds_b93 (y_w : WT) (y_looks : LooksT) (bu : BusT) (k75 : Int32 → Int32 → Int32 → MOT → WhoT → LookT → ComingT → AheadT → LeftT → TimesT → PartT → WT → Option (Int64 × MOT × WhoT × LookT × ComingT × AheadT × LeftT × TimesT × PartT × WT)) (v1 : Int32) (v2 : Int32) (v3 : Int32) (z0 : MOT) (z3 : WhoT) (z4 : LookT) (z5 : ComingT) (z6 : AheadT) (z7 : LeftT) (z8 : TimesT) (z9 : PartT) (z11 : WT) : Option (Int64 × MOT × WhoT × LookT × ComingT × AheadT × LeftT × TimesT × PartT × WT) := k75 v1 v2 (v3 + (1 : Int32)) z0 z3 z4 z5 z6 z7 z8 z9 z11
noncomputable def f_X12_odds_b75 (y_w : WT) (y_looks : LooksT) (bu : BusT) : Nat → Int32 → Int32 → Int32 → MOT → WhoT → LookT → ComingT → AheadT → LeftT → TimesT → PartT → WT → Option (Int64 × MOT × WhoT × LookT × ComingT × AheadT × LeftT × TimesT × PartT × WT)
  | 0, _, _, _, _, _, _, _, _, _, _, _, _ => none
  | n + 1, v1, v2, v3, z0, z3, z4, z5, z6, z7, z8, z9, z11 => (if (56 : Int32) ≤ v3 then if kb_in? (52 : Int32) 56 then (f_X12_beforeGettingOn z0 z11 y_looks z3 z4 bu ((yW_r z11) ((52 : Int32)).toNatClampNeg)).bind fun r13 => f_X12_odds_b118 y_w y_looks bu v1 v2 z0 r13.2.1 r13.2.2 z5 z6 z7 z8 z9 r13.1 else none else if kb_in? v3 56 then if kb_in? v3 56 then f_X12_odds_b93 y_w y_looks bu (f_X12_odds_b75 y_w y_looks bu n) v1 v2 v3 z0 z3 z4 z5 z6 z7 z8 z9 (yW_set_r z11 (upd (yW_r z11) (v3).toNatClampNeg ((yW_r y_w) (v3).toNatClampNeg))) else none else none)
noncomputable def f_X12_odds_b32 (y_w : WT) (y_looks : LooksT) (bu : BusT) (v1 : Int32) (v2 : Int32) (z0 : MOT) (z3 : WhoT) (z4 : LookT) (z5 : ComingT) (z6 : AheadT) (z7 : LeftT) (z8 : TimesT) (z9 : PartT) (z11 : WT) : Option (Int64 × MOT × WhoT × LookT × ComingT × AheadT × LeftT × TimesT × PartT × WT) := (if (mo_comers z0) ≤ (4 : Int32) then if kb_in? v1 8 then if kb_in? (52 : Int32) 56 then (if ((bu_on bu) (v1).toNatClampNeg) = ((yW_r y_w) ((52 : Int32)).toNatClampNeg) then f_X12_odds_b75 y_w y_looks bu 4096 v1 v2 (0 : Int32) z0 z3 z4 z5 z6 z7 z8 z9 z11 else (f_X12_refused z0 (5 : Int32)).bind fun r18 => some ((r18.1).toInt64, r18.2, z3, z4, z5, z6, z7, z8, z9, z11)) else none else none else (f_X12_refused z0 (3 : Int32)).bind fun r19 => some ((r19.1).toInt64, r19.2, z3, z4, z5, z6, z7, z8, z9, z11))
noncomputable def f_X12_odds_b5 (y_w : WT) (y_looks : LooksT) (bu : BusT) (v1 : Int32) (v2 : Int32) (z0 : MOT) (z3 : WhoT) (z4 : LookT) (z5 : ComingT) (z6 : AheadT) (z7 : LeftT) (z8 : TimesT) (z9 : PartT) (z11 : WT) : Option (Int64 × MOT × WhoT × LookT × ComingT × AheadT × LeftT × TimesT × PartT × WT) := (f_X12_isRider z0 bu v1).bind fun r1 => (if r1 = 0 then f_X12_odds_b21 y_w y_looks bu z0 z3 z4 z5 z6 z7 z8 z9 z11 else (f_X12_isSeat z0 bu v2).bind fun r4 => (if r4 = 0 then f_X12_odds_b21 y_w y_looks bu z0 z3 z4 z5 z6 z7 z8 z9 z11 else (f_X12_comes z0 y_w z5 bu).bind fun r6 => f_X12_odds_b32 y_w y_looks bu v1 v2 r6.1 z3 z4 r6.2 z6 z7 z8 z9 z11))
noncomputable def f_X12_odds (mo : MOT) (y_w : WT) (y_looks : LooksT) (y_who : WhoT) (y_look : LookT) (y_coming : ComingT) (y_ahead : AheadT) (y_left : LeftT) (y_times : TimesT) (y_part : PartT) (bu : BusT) (y_other : WT) (x0 : Int32) (x1 : Int32) : Option (Int64 × MOT × WhoT × LookT × ComingT × AheadT × LeftT × TimesT × PartT × WT) := f_X12_odds_b5 y_w y_looks bu x0 x1 (mo_set_thrown mo (0 : Int32)) y_who y_look y_coming y_ahead y_left y_times y_part y_other
set_option maxHeartbeats 4000000 in
set_option maxRecDepth 100000 in
theorem c_X12_odds (l : Launch) (D : va_G) (dA : Nat → ClassId) (sz : Nat) (a : Nat → Nat) (wa : Nat → Nat) (la : Nat → Nat) (ha : Nat → Nat) (ca : Nat → Nat) (na : Nat → Nat) (da : Nat → Nat) (fa : Nat → Nat) (ia : Nat → Nat) (ra : Nat → Nat) (ba : Nat → Nat) (za : Nat → Nat) (q1 : Option Nat) (g2 : Nat) (g5 : Nat) (g15 : Nat) (g16 : Nat) (g17 : Nat) (g18 : Nat) (mo : MOT) (y_w : WT) (y_looks : LooksT) (y_who : WhoT) (y_look : LookT) (y_coming : ComingT) (y_ahead : AheadT) (y_left : LeftT) (y_times : TimesT) (y_part : PartT) (bu : BusT) (y_other : WT) (x0 : Int32) (x1 : Int32) (rv : Int64) (u0 : MOT) (u3 : WhoT) (u4 : LookT) (u5 : ComingT) (u6 : AheadT) (u7 : LeftT) (u8 : TimesT) (u9 : PartT) (u11 : WT) (hf : f_X12_odds mo y_w y_looks y_who y_look y_coming y_ahead y_left y_times y_part bu y_other x0 x1 = some (rv, u0, u3, u4, u5, u6, u7, u8, u9, u11)) : kb_Ml l yX12_odds cX12_odds 5 (some .long) ({ frames := 10, cells := 0, slots := 0, locals := 231 } : Room) D dA [.ref (a 0), .int x0, .int x1] sz (w_MO dA a (some (ba 0)) q1 g2 (wa 0) (za 0) g5 (wa 0) (la 0) (ha 0) (ca 0) (na 0) (da 0) (fa 0) (ia 0) (ra 0) g15 g16 g17 g18 mo ++ (w_W dA wa y_w ++ (w_Looks dA la y_looks ++ (w_Who dA ha y_who ++ (w_Look dA ca y_look ++ (w_Coming dA na y_coming ++ (w_Ahead dA da y_ahead ++ (w_Left dA fa y_left ++ (w_Times dA ia y_times ++ (w_Part dA ra y_part ++ (w_Bus dA ba bu ++ (w_W dA za y_other)))))))))))) 0 0 rv (w_MO dA a (some (ba 0)) q1 g2 (wa 0) (za 0) g5 (wa 0) (la 0) (ha 0) (ca 0) (na 0) (da 0) (fa 0) (ia 0) (ra 0) g15 g16 g17 g18 u0 ++ (w_W dA wa y_w ++ (w_Looks dA la y_looks ++ (w_Who dA ha u3 ++ (w_Look dA ca u4 ++ (w_Coming dA na u5 ++ (w_Ahead dA da u6 ++ (w_Left dA fa u7 ++ (w_Times dA ia u8 ++ (w_Part dA ra u9 ++ (w_Bus dA ba bu ++ (w_W dA za u11)))))))))))) := by
  refine Met.ofW (cc := cX12_odds) (maxL := 5) (ret := (some .long)) (by decide) rfl ?_
  intro p e s m args below meth c s₁ B hml hv
  obtain ⟨rfl, hsz, hP, hK, hD0, hE⟩ := hv
  have hx := B.exec
  have hb := B.bytes
  have hr := B.returns
  have hown : s.vm.findClass RX12 = some m.cls := findClass_of_methodNamed B.named
  have hlocks := B.notSynchronized
  have hts : ∀ w ∈ kb_gw, w.before ([.ref (a 0), .int x0, .int x1] : List Value).toArray s = true := fun w hw => hK.2.1 w hw _
  subst hsz
  have hD := hD0.self (sz := s.heap.size)
  generalize hAe : va_A (w_MO dA a (some (ba 0)) q1 g2 (wa 0) (za 0) g5 (wa 0) (la 0) (ha 0) (ca 0) (na 0) (da 0) (fa 0) (ia 0) (ra 0) g15 g16 g17 g18 mo ++ (w_W dA wa y_w ++ (w_Looks dA la y_looks ++ (w_Who dA ha y_who ++ (w_Look dA ca y_look ++ (w_Coming dA na y_coming ++ (w_Ahead dA da y_ahead ++ (w_Left dA fa y_left ++ (w_Times dA ia y_times ++ (w_Part dA ra y_part ++ (w_Bus dA ba bu ++ (w_W dA za y_other)))))))))))) s.heap.size = A at hD hE ⊢
  have hA : ∀ q : Nat, s.heap.size ≤ q → A q := fun q h => by rw [← hAe]; exact Or.inr h
  have hS : va_S A s.heap s.heap [] := va_S.rf
  have hl := lv_entry ([.ref (a 0), .int x0, .int x1]) (n := 5) (Nat.le_of_ble_eq_true rfl)
  rw [lg_entry_eq]
  generalize (lg_sl ([.ref (a 0), .int x0, .int x1]) ++ List.replicate (5 - (lg_sl ([.ref (a 0), .int x0, .int x1])).length) Slot.unset).toArray = ls at hl ⊢
  have hl : lv_has ls 5 [(0, .ref (a 0)), (1, .int x0), (2, .int x1)] := hl
  generalize hQ : MQ below (va_Ql (fun r (_ : Unit) => r = rv) (kb_B D A (w_MO dA a (some (ba 0)) q1 g2 (wa 0) (za 0) g5 (wa 0) (la 0) (ha 0) (ca 0) (na 0) (da 0) (fa 0) (ia 0) (ra 0) g15 g16 g17 g18 u0 ++ (w_W dA wa y_w ++ (w_Looks dA la y_looks ++ (w_Who dA ha u3 ++ (w_Look dA ca u4 ++ (w_Coming dA na u5 ++ (w_Ahead dA da u6 ++ (w_Left dA fa u7 ++ (w_Times dA ia u8 ++ (w_Part dA ra u9 ++ (w_Bus dA ba bu ++ (w_W dA za u11))))))))))))) A) ([.ref (a 0), .int x0, .int x1] : List Value).toArray s 0 0 A = Q
  show W p l e ({ frames := 10, cells := 0, slots := 0, locals := 231 } : Room) s m ([.ref (a 0), .int x0, .int x1] : List Value).toArray below meth c s.heap [] 0 0 Q (F0 m 0 ls [])
  have RET : ∀ (r2 : Int64) (w0 : MOT) (w3 : WhoT) (w4 : LookT) (w5 : ComingT) (w6 : AheadT) (w7 : LeftT) (w8 : TimesT) (w9 : PartT) (w11 : WT) (H : Heap) (locs : List Loc) (ls : Array Slot) (pc : Nat), some (r2, w0, w3, w4, w5, w6, w7, w8, w9, w11) = some (rv, u0, u3, u4, u5, u6, u7, u8, u9, u11) → va_P D vwCl (w_MO dA a (some (ba 0)) q1 g2 (wa 0) (za 0) g5 (wa 0) (la 0) (ha 0) (ca 0) (na 0) (da 0) (fa 0) (ia 0) (ra 0) g15 g16 g17 g18 w0 ++ (w_W dA wa y_w ++ (w_Looks dA la y_looks ++ (w_Who dA ha w3 ++ (w_Look dA ca w4 ++ (w_Coming dA na w5 ++ (w_Ahead dA da w6 ++ (w_Left dA fa w7 ++ (w_Times dA ia w8 ++ (w_Part dA ra w9 ++ (w_Bus dA ba bu ++ (w_W dA za w11)))))))))))) H → va_D A (w_MO dA a (some (ba 0)) q1 g2 (wa 0) (za 0) g5 (wa 0) (la 0) (ha 0) (ca 0) (na 0) (da 0) (fa 0) (ia 0) (ra 0) g15 g16 g17 g18 w0 ++ (w_W dA wa y_w ++ (w_Looks dA la y_looks ++ (w_Who dA ha w3 ++ (w_Look dA ca w4 ++ (w_Coming dA na w5 ++ (w_Ahead dA da w6 ++ (w_Left dA fa w7 ++ (w_Times dA ia w8 ++ (w_Part dA ra w9 ++ (w_Bus dA ba bu ++ (w_W dA za w11)))))))))))) → va_S A s.heap H locs → decode cX12_odds pc = .ok (.lreturn, 1) → W p l e ({ frames := 10, cells := 0, slots := 0, locals := 231 } : Room) s m ([.ref (a 0), .int x0, .int x1] : List Value).toArray below meth c H locs 0 0 Q (F0 m pc ls [.long r2]) := by
    intro r2 w0 w3 w4 w5 w6 w7 w8 w9 w11 H locs ls pc hq hP hD hS hd
    cases hq
    rw [← hQ]
    exact W.lret hx hb hr (fun t ht hW => ⟨⟨_, (), rfl, rfl, by rw [ht]; exact hP, hD⟩, hS.F ht⟩) hS.2.2 hd
  have B_21 : ∀ (z0 : MOT) (z3 : WhoT) (z4 : LookT) (z5 : ComingT) (z6 : AheadT) (z7 : LeftT) (z8 : TimesT) (z9 : PartT) (z11 : WT) (H : Heap) (locs : List Loc) (ls : Array Slot), f_X12_odds_b21 y_w y_looks bu z0 z3 z4 z5 z6 z7 z8 z9 z11 = some (rv, u0, u3, u4, u5, u6, u7, u8, u9, u11) → va_P D vwCl (w_MO dA a (some (ba 0)) q1 g2 (wa 0) (za 0) g5 (wa 0) (la 0) (ha 0) (ca 0) (na 0) (da 0) (fa 0) (ia 0) (ra 0) g15 g16 g17 g18 z0 ++ (w_W dA wa y_w ++ (w_Looks dA la y_looks ++ (w_Who dA ha z3 ++ (w_Look dA ca z4 ++ (w_Coming dA na z5 ++ (w_Ahead dA da z6 ++ (w_Left dA fa z7 ++ (w_Times dA ia z8 ++ (w_Part dA ra z9 ++ (w_Bus dA ba bu ++ (w_W dA za z11)))))))))))) H → va_D A (w_MO dA a (some (ba 0)) q1 g2 (wa 0) (za 0) g5 (wa 0) (la 0) (ha 0) (ca 0) (na 0) (da 0) (fa 0) (ia 0) (ra 0) g15 g16 g17 g18 z0 ++ (w_W dA wa y_w ++ (w_Looks dA la y_looks ++ (w_Who dA ha z3 ++ (w_Look dA ca z4 ++ (w_Coming dA na z5 ++ (w_Ahead dA da z6 ++ (w_Left dA fa z7 ++ (w_Times dA ia z8 ++ (w_Part dA ra z9 ++ (w_Bus dA ba bu ++ (w_W dA za z11)))))))))))) → va_S A s.heap H locs → lv_has ls 5 [(0, .ref (a 0))] → W p l e ({ frames := 10, cells := 0, slots := 0, locals := 231 } : Room) s m ([.ref (a 0), .int x0, .int x1] : List Value).toArray below meth c H locs 0 0 Q (F0 m 21 ls []) := by
    intro z0 z3 z4 z5 z6 z7 z8 z9 z11 H locs ls hf hP hD hS hl
    rw [f_X12_odds_b21] at hf
    refine lv_aload_n hx hb dX12_odds_21 rfl (lv_at hl 0 rfl) ?_
    refine lv_iconst (v := (1 : Int32)) hx hb dX12_odds_22 (by decide) ?_
    obtain ⟨r3, hc3, hf⟩ := kb_bind hf
    refine kb_ci (ws2 := (w_MO dA a (some (ba 0)) q1 g2 (wa 0) (za 0) g5 (wa 0) (la 0) (ha 0) (ca 0) (na 0) (da 0) (fa 0) (ia 0) (ra 0) g15 g16 g17 g18 r3.2 ++ (w_W dA wa y_w ++ (w_Looks dA la y_looks ++ (w_Who dA ha z3 ++ (w_Look dA ca z4 ++ (w_Coming dA na z5 ++ (w_Ahead dA da z6 ++ (w_Left dA fa z7 ++ (w_Times dA ia z8 ++ (w_Part dA ra z9 ++ (w_Bus dA ba bu ++ (w_W dA za z11))))))))))))) (kb_rV (n := 1) (As := [.int (1 : Int32)]) (rest := []) hx hb hml hown hK (c_X12_refused l D dA H.size a (some (ba 0)) q1 g2 (wa 0) (za 0) g5 (wa 0) (la 0) (ha 0) (ca 0) (na 0) (da 0) (fa 0) (ia 0) (ra 0) g15 g16 g17 g18 z0 (1 : Int32) r3.1 r3.2 hc3) ⟨ww_6_82, ww_6_79, ww_6_81, ws_46, ww_1_12, rfl, by decide, by decide⟩ rfl rfl (by decide +kernel) ⟨Nat.le_of_ble_eq_true rfl, Nat.le_of_ble_eq_true rfl⟩ hP hD hS hA hE [0] rfl (by decide) 0 rfl rfl rfl hl.1 rfl (Nat.le_of_ble_eq_true rfl) dX12_odds_23 ⟨Nat.le_of_ble_eq_true rfl, Nat.le_of_ble_eq_true rfl⟩) hP hD hS hA [0] [1, 2, 3, 4, 5, 6, 7, 8, 9, 10, 11, 12, 13, 14, 15, 16, 17, 18, 19, 20, 21, 22, 23, 24, 25, 26] [26, 0, 1, 2, 3, 4, 5, 6, 7, 8, 9, 10, 11, 12, 13, 14, 15, 16, 17, 18, 19, 20, 21, 22, 23, 24, 25] rfl rfl (by decide) (by decide) rfl (by decide) (fun H locs hP hD hS => ?_)
    refine lv_i2l hx hb dX12_odds_26 rfl ?_
    exact RET _ _ _ _ _ _ _ _ _ _ H _ ls 27 hf hP hD hS dX12_odds_27
  have B_125 : ∀ (v3 : Int64) (z0 : MOT) (z3 : WhoT) (z4 : LookT) (z5 : ComingT) (z6 : AheadT) (z7 : LeftT) (z8 : TimesT) (z9 : PartT) (z11 : WT) (H : Heap) (locs : List Loc) (ls : Array Slot), f_X12_odds_b125 y_w y_looks bu v3 z0 z3 z4 z5 z6 z7 z8 z9 z11 = some (rv, u0, u3, u4, u5, u6, u7, u8, u9, u11) → va_P D vwCl (w_MO dA a (some (ba 0)) q1 g2 (wa 0) (za 0) g5 (za 0) (la 0) (ha 0) (ca 0) (na 0) (da 0) (fa 0) (ia 0) (ra 0) g15 g16 g17 g18 z0 ++ (w_W dA wa y_w ++ (w_Looks dA la y_looks ++ (w_Who dA ha z3 ++ (w_Look dA ca z4 ++ (w_Coming dA na z5 ++ (w_Ahead dA da z6 ++ (w_Left dA fa z7 ++ (w_Times dA ia z8 ++ (w_Part dA ra z9 ++ (w_Bus dA ba bu ++ (w_W dA za z11)))))))))))) H → va_D A (w_MO dA a (some (ba 0)) q1 g2 (wa 0) (za 0) g5 (za 0) (la 0) (ha 0) (ca 0) (na 0) (da 0) (fa 0) (ia 0) (ra 0) g15 g16 g17 g18 z0 ++ (w_W dA wa y_w ++ (w_Looks dA la y_looks ++ (w_Who dA ha z3 ++ (w_Look dA ca z4 ++ (w_Coming dA na z5 ++ (w_Ahead dA da z6 ++ (w_Left dA fa z7 ++ (w_Times dA ia z8 ++ (w_Part dA ra z9 ++ (w_Bus dA ba bu ++ (w_W dA za z11)))))))))))) → va_S A s.heap H locs → lv_has ls 5 [(0, .ref (a 0)), (3, .long v3)] → W p l e ({ frames := 10, cells := 0, slots := 0, locals := 231 } : Room) s m ([.ref (a 0), .int x0, .int x1] : List Value).toArray below meth c H locs 0 0 Q (F0 m 125 ls []) := by
    intro v3 z0 z3 z4 z5 z6 z7 z8 z9 z11 H locs ls hf hP hD hS hl
    rw [f_X12_odds_b125] at hf
    refine lv_aload_n hx hb dX12_odds_125 rfl (lv_at hl 0 rfl) ?_
    refine lv_aload_n hx hb dX12_odds_126 rfl (lv_at hl 0 rfl) ?_
    refine va_get (D := D) (ci := 12) (v := .ref (wa 0)) (C := RX12) (T := TX12) (N := 35) hx hb hts kb_inX12 hown hK.1 hP 0 rfl rfl 16 (by decide) (hK.2.w ww_5_216 rfl _) (fun _ h9 => h9) rfl dX12_odds_127 ?_
    refine va_put (D := D) (ci := 12) (v := .ref (wa 0)) (ty := .array .int) (C := RX12) (T := TX12) (N := 35) hx hb hts kb_inX12 tyX12 tyX12_ok nmX12 hown hK.1 hP hD hS 0 rfl rfl 19 (by decide) (hK.2.w ww_5_219 rfl _) (fun _ h9 => h9) rfl (by decide +kernel) rfl rfl (Nat.le_of_ble_eq_true rfl) dX12_odds_130 (fun H locs hP hD hS => ?_)
    have hP : va_P D vwCl (w_MO dA a (some (ba 0)) q1 g2 (wa 0) (za 0) g5 (wa 0) (la 0) (ha 0) (ca 0) (na 0) (da 0) (fa 0) (ia 0) (ra 0) g15 g16 g17 g18 z0 ++ (w_W dA wa y_w ++ (w_Looks dA la y_looks ++ (w_Who dA ha z3 ++ (w_Look dA ca z4 ++ (w_Coming dA na z5 ++ (w_Ahead dA da z6 ++ (w_Left dA fa z7 ++ (w_Times dA ia z8 ++ (w_Part dA ra z9 ++ (w_Bus dA ba bu ++ (w_W dA za z11)))))))))))) H := hP
    have hD : va_D A (w_MO dA a (some (ba 0)) q1 g2 (wa 0) (za 0) g5 (wa 0) (la 0) (ha 0) (ca 0) (na 0) (da 0) (fa 0) (ia 0) (ra 0) g15 g16 g17 g18 z0 ++ (w_W dA wa y_w ++ (w_Looks dA la y_looks ++ (w_Who dA ha z3 ++ (w_Look dA ca z4 ++ (w_Coming dA na z5 ++ (w_Ahead dA da z6 ++ (w_Left dA fa z7 ++ (w_Times dA ia z8 ++ (w_Part dA ra z9 ++ (w_Bus dA ba bu ++ (w_W dA za z11)))))))))))) := hD
    refine lv_aload_n hx hb dX12_odds_133 rfl (lv_at hl 0 rfl) ?_
    refine lv_lload_n hx hb dX12_odds_134 rfl (lv_at hl 1 rfl) ?_
    obtain ⟨r15, hc15, hf⟩ := kb_bind hf
    refine kb_cl (ws2 := (w_MO dA a (some (ba 0)) q1 g2 (wa 0) (za 0) g5 (wa 0) (la 0) (ha 0) (ca 0) (na 0) (da 0) (fa 0) (ia 0) (ra 0) g15 g16 g17 g18 r15.2 ++ (w_W dA wa y_w ++ (w_Looks dA la y_looks ++ (w_Who dA ha z3 ++ (w_Look dA ca z4 ++ (w_Coming dA na z5 ++ (w_Ahead dA da z6 ++ (w_Left dA fa z7 ++ (w_Times dA ia z8 ++ (w_Part dA ra z9 ++ (w_Bus dA ba bu ++ (w_W dA za z11))))))))))))) (kb_rV (n := 1) (As := [.long v3]) (rest := []) hx hb hml hown hK (c_X12_doneLong l D dA H.size a (some (ba 0)) q1 g2 (wa 0) (za 0) g5 (wa 0) (la 0) (ha 0) (ca 0) (na 0) (da 0) (fa 0) (ia 0) (ra 0) g15 g16 g17 g18 z0 v3 r15.1 r15.2 hc15) ⟨ww_8_105, ww_8_102, ww_8_104, ws_106, ww_1_12, rfl, by decide, by decide⟩ rfl rfl (by decide +kernel) ⟨Nat.le_of_ble_eq_true rfl, Nat.le_of_ble_eq_true rfl⟩ hP hD hS hA hE [0] rfl (by decide) 0 rfl rfl rfl hl.1 rfl (Nat.le_of_ble_eq_true rfl) dX12_odds_135 ⟨Nat.le_of_ble_eq_true rfl, Nat.le_of_ble_eq_true rfl⟩) hP hD hS hA [0] [1, 2, 3, 4, 5, 6, 7, 8, 9, 10, 11, 12, 13, 14, 15, 16, 17, 18, 19, 20, 21, 22, 23, 24, 25, 26] [26, 0, 1, 2, 3, 4, 5, 6, 7, 8, 9, 10, 11, 12, 13, 14, 15, 16, 17, 18, 19, 20, 21, 22, 23, 24, 25] rfl rfl (by decide) (by decide) rfl (by decide) (fun H locs hP hD hS => ?_)
    exact RET _ _ _ _ _ _ _ _ _ _ H _ ls 138 hf hP hD hS dX12_odds_138
  have B_118 : ∀ (v1 : Int32) (v2 : Int32) (z0 : MOT) (z3 : WhoT) (z4 : LookT) (z5 : ComingT) (z6 : AheadT) (z7 : LeftT) (z8 : TimesT) (z9 : PartT) (z11 : WT) (H : Heap) (locs : List Loc) (ls : Array Slot), f_X12_odds_b118 y_w y_looks bu v1 v2 z0 z3 z4 z5 z6 z7 z8 z9 z11 = some (rv, u0, u3, u4, u5, u6, u7, u8, u9, u11) → va_P D vwCl (w_MO dA a (some (ba 0)) q1 g2 (wa 0) (za 0) g5 (za 0) (la 0) (ha 0) (ca 0) (na 0) (da 0) (fa 0) (ia 0) (ra 0) g15 g16 g17 g18 z0 ++ (w_W dA wa y_w ++ (w_Looks dA la y_looks ++ (w_Who dA ha z3 ++ (w_Look dA ca z4 ++ (w_Coming dA na z5 ++ (w_Ahead dA da z6 ++ (w_Left dA fa z7 ++ (w_Times dA ia z8 ++ (w_Part dA ra z9 ++ (w_Bus dA ba bu ++ (w_W dA za z11)))))))))))) H → va_D A (w_MO dA a (some (ba 0)) q1 g2 (wa 0) (za 0) g5 (za 0) (la 0) (ha 0) (ca 0) (na 0) (da 0) (fa 0) (ia 0) (ra 0) g15 g16 g17 g18 z0 ++ (w_W dA wa y_w ++ (w_Looks dA la y_looks ++ (w_Who dA ha z3 ++ (w_Look dA ca z4 ++ (w_Coming dA na z5 ++ (w_Ahead dA da z6 ++ (w_Left dA fa z7 ++ (w_Times dA ia z8 ++ (w_Part dA ra z9 ++ (w_Bus dA ba bu ++ (w_W dA za z11)))))))))))) → va_S A s.heap H locs → lv_has ls 5 [(0, .ref (a 0)), (1, .int v1), (2, .int v2)] → W p l e ({ frames := 10, cells := 0, slots := 0, locals := 231 } : Room) s m ([.ref (a 0), .int x0, .int x1] : List Value).toArray below meth c H locs 0 0 Q (F0 m 118 ls []) := by
    intro v1 v2 z0 z3 z4 z5 z6 z7 z8 z9 z11 H locs ls hf hP hD hS hl
    rw [f_X12_odds_b118] at hf
    refine lv_aload_n hx hb dX12_odds_118 rfl (lv_at hl 0 rfl) ?_
    refine lv_iload_n hx hb dX12_odds_119 rfl (lv_at hl 1 rfl) ?_
    refine lv_iload_n hx hb dX12_odds_120 rfl (lv_at hl 2 rfl) ?_
    obtain ⟨r14, hc14, hf⟩ := kb_bind hf
    refine kb_cl (ws2 := (w_MO dA a (some (ba 0)) q1 g2 (wa 0) (za 0) g5 (za 0) (la 0) (ha 0) (ca 0) (na 0) (da 0) (fa 0) (ia 0) (ra 0) g15 g16 g17 g18 z0 ++ (w_W dA wa y_w ++ (w_Looks dA la y_looks ++ (w_Who dA ha r14.2.2.1 ++ (w_Look dA ca r14.2.2.2.1 ++ (w_Coming dA na z5 ++ (w_Ahead dA da r14.2.2.2.2.1 ++ (w_Left dA fa r14.2.2.2.2.2.1 ++ (w_Times dA ia r14.2.2.2.2.2.2.1 ++ (w_Part dA ra r14.2.2.2.2.2.2.2 ++ (w_Bus dA ba bu ++ (w_W dA za r14.2.1))))))))))))) (kb_rV (n := 2) (As := [.int v1, .int v2]) (rest := []) hx hb hml hown hK (c_X12_oddsOf l D dA H.size a za la ha ca na da fa ia ra ba q1 g2 (wa 0) (za 0) g5 g15 g16 g17 g18 z0 z11 y_looks z3 z4 z5 z6 z7 z8 z9 bu v1 v2 r14.1 r14.2.1 r14.2.2.1 r14.2.2.2.1 r14.2.2.2.2.1 r14.2.2.2.2.2.1 r14.2.2.2.2.2.2.1 r14.2.2.2.2.2.2.2 hc14) ⟨ww_8_92, ww_8_89, ww_8_91, ws_103, ww_1_12, rfl, by decide, by decide⟩ rfl rfl (by decide +kernel) ⟨Nat.le_of_ble_eq_true rfl, Nat.le_of_ble_eq_true rfl⟩ hP hD hS hA hE [0, 26, 2, 3, 4, 5, 6, 7, 8, 9, 10, 11, 12, 13, 14, 15, 16, 17, 18, 19, 20, 21, 22, 23, 24, 25] rfl (by decide) 0 rfl rfl rfl hl.1 rfl (Nat.le_of_ble_eq_true rfl) dX12_odds_121 ⟨Nat.le_of_ble_eq_true rfl, Nat.le_of_ble_eq_true rfl⟩) hP hD hS hA [0, 26, 2, 3, 4, 5, 6, 7, 8, 9, 10, 11, 12, 13, 14, 15, 16, 17, 18, 19, 20, 21, 22, 23, 24, 25] [1] [1, 0, 3, 4, 5, 6, 7, 8, 9, 10, 11, 12, 13, 14, 15, 16, 17, 18, 19, 20, 21, 22, 23, 24, 25, 26, 2] rfl rfl (by decide) (by decide) rfl (by decide) (fun H locs hP hD hS => ?_)
    refine lv_lstore_n (lv' := [(3, .long r14.1), (0, .ref (a 0)), (1, .int v1), (2, .int v2)]) hx hb dX12_odds_124 rfl hl (by decide) rfl (fun ls hl => ?_)
    exact B_125 _ _ _ _ _ _ _ _ _ _ _ _ _ hf hP hD hS (lv_sub hl [1, 0] rfl)
  have B_93 : ∀ (k75 : Int32 → Int32 → Int32 → MOT → WhoT → LookT → ComingT → AheadT → LeftT → TimesT → PartT → WT → Option (Int64 × MOT × WhoT × LookT × ComingT × AheadT × LeftT × TimesT × PartT × WT)) (hk75 : ∀ (v1 : Int32) (v2 : Int32) (v3 : Int32) (z0 : MOT) (z3 : WhoT) (z4 : LookT) (z5 : ComingT) (z6 : AheadT) (z7 : LeftT) (z8 : TimesT) (z9 : PartT) (z11 : WT) (H : Heap) (locs : List Loc) (ls : Array Slot), k75 v1 v2 v3 z0 z3 z4 z5 z6 z7 z8 z9 z11 = some (rv, u0, u3, u4, u5, u6, u7, u8, u9, u11) → va_P D vwCl (w_MO dA a (some (ba 0)) q1 g2 (wa 0) (za 0) g5 (wa 0) (la 0) (ha 0) (ca 0) (na 0) (da 0) (fa 0) (ia 0) (ra 0) g15 g16 g17 g18 z0 ++ (w_W dA wa y_w ++ (w_Looks dA la y_looks ++ (w_Who dA ha z3 ++ (w_Look dA ca z4 ++ (w_Coming dA na z5 ++ (w_Ahead dA da z6 ++ (w_Left dA fa z7 ++ (w_Times dA ia z8 ++ (w_Part dA ra z9 ++ (w_Bus dA ba bu ++ (w_W dA za z11)))))))))))) H → va_D A (w_MO dA a (some (ba 0)) q1 g2 (wa 0) (za 0) g5 (wa 0) (la 0) (ha 0) (ca 0) (na 0) (da 0) (fa 0) (ia 0) (ra 0) g15 g16 g17 g18 z0 ++ (w_W dA wa y_w ++ (w_Looks dA la y_looks ++ (w_Who dA ha z3 ++ (w_Look dA ca z4 ++ (w_Coming dA na z5 ++ (w_Ahead dA da z6 ++ (w_Left dA fa z7 ++ (w_Times dA ia z8 ++ (w_Part dA ra z9 ++ (w_Bus dA ba bu ++ (w_W dA za z11)))))))))))) → va_S A s.heap H locs → lv_has ls 5 [(0, .ref (a 0)), (1, .int v1), (2, .int v2), (3, .int v3)] → W p l e ({ frames := 10, cells := 0, slots := 0, locals := 231 } : Room) s m ([.ref (a 0), .int x0, .int x1] : List Value).toArray below meth c H locs 0 0 Q (F0 m 75 ls [])) (v1 : Int32) (v2 : Int32) (v3 : Int32) (z0 : MOT) (z3 : WhoT) (z4 : LookT) (z5 : ComingT) (z6 : AheadT) (z7 : LeftT) (z8 : TimesT) (z9 : PartT) (z11 : WT) (H : Heap) (locs : List Loc) (ls : Array Slot), f_X12_odds_b93 y_w y_looks bu k75 v1 v2 v3 z0 z3 z4 z5 z6 z7 z8 z9 z11 = some (rv, u0, u3, u4, u5, u6, u7, u8, u9, u11) → va_P D vwCl (w_MO dA a (some (ba 0)) q1 g2 (wa 0) (za 0) g5 (wa 0) (la 0) (ha 0) (ca 0) (na 0) (da 0) (fa 0) (ia 0) (ra 0) g15 g16 g17 g18 z0 ++ (w_W dA wa y_w ++ (w_Looks dA la y_looks ++ (w_Who dA ha z3 ++ (w_Look dA ca z4 ++ (w_Coming dA na z5 ++ (w_Ahead dA da z6 ++ (w_Left dA fa z7 ++ (w_Times dA ia z8 ++ (w_Part dA ra z9 ++ (w_Bus dA ba bu ++ (w_W dA za z11)))))))))))) H → va_D A (w_MO dA a (some (ba 0)) q1 g2 (wa 0) (za 0) g5 (wa 0) (la 0) (ha 0) (ca 0) (na 0) (da 0) (fa 0) (ia 0) (ra 0) g15 g16 g17 g18 z0 ++ (w_W dA wa y_w ++ (w_Looks dA la y_looks ++ (w_Who dA ha z3 ++ (w_Look dA ca z4 ++ (w_Coming dA na z5 ++ (w_Ahead dA da z6 ++ (w_Left dA fa z7 ++ (w_Times dA ia z8 ++ (w_Part dA ra z9 ++ (w_Bus dA ba bu ++ (w_W dA za z11)))))))))))) → va_S A s.heap H locs → lv_has ls 5 [(0, .ref (a 0)), (1, .int v1), (2, .int v2), (3, .int v3)] → W p l e ({ frames := 10, cells := 0, slots := 0, locals := 231 } : Room) s m ([.ref (a 0), .int x0, .int x1] : List Value).toArray below meth c H locs 0 0 Q (F0 m 93 ls []) := by
    intro k75 hk75 v1 v2 v3 z0 z3 z4 z5 z6 z7 z8 z9 z11 H locs ls hf hP hD hS hl
    rw [f_X12_odds_b93] at hf
    refine lv_iinc (v := (v3 + (1 : Int32))) (lv' := [(3, .int (v3 + (1 : Int32))), (0, .ref (a 0)), (1, .int v1), (2, .int v2)]) hx hb dX12_odds_93 hl (k := 3) rfl (by rfl) (by decide) rfl (fun ls hl => ?_)
    refine lv_goto (tgt := 75) hx hb dX12_odds_96 (by decide) ?_
    exact hk75 _ _ _ _ _ _ _ _ _ _ _ _ _ _ _ hf hP hD hS (lv_sub hl [1, 2, 3, 0] rfl)
  have B_75 : ∀ (n : Nat) (v1 : Int32) (v2 : Int32) (v3 : Int32) (z0 : MOT) (z3 : WhoT) (z4 : LookT) (z5 : ComingT) (z6 : AheadT) (z7 : LeftT) (z8 : TimesT) (z9 : PartT) (z11 : WT) (H : Heap) (locs : List Loc) (ls : Array Slot), f_X12_odds_b75 y_w y_looks bu n v1 v2 v3 z0 z3 z4 z5 z6 z7 z8 z9 z11 = some (rv, u0, u3, u4, u5, u6, u7, u8, u9, u11) → va_P D vwCl (w_MO dA a (some (ba 0)) q1 g2 (wa 0) (za 0) g5 (wa 0) (la 0) (ha 0) (ca 0) (na 0) (da 0) (fa 0) (ia 0) (ra 0) g15 g16 g17 g18 z0 ++ (w_W dA wa y_w ++ (w_Looks dA la y_looks ++ (w_Who dA ha z3 ++ (w_Look dA ca z4 ++ (w_Coming dA na z5 ++ (w_Ahead dA da z6 ++ (w_Left dA fa z7 ++ (w_Times dA ia z8 ++ (w_Part dA ra z9 ++ (w_Bus dA ba bu ++ (w_W dA za z11)))))))))))) H → va_D A (w_MO dA a (some (ba 0)) q1 g2 (wa 0) (za 0) g5 (wa 0) (la 0) (ha 0) (ca 0) (na 0) (da 0) (fa 0) (ia 0) (ra 0) g15 g16 g17 g18 z0 ++ (w_W dA wa y_w ++ (w_Looks dA la y_looks ++ (w_Who dA ha z3 ++ (w_Look dA ca z4 ++ (w_Coming dA na z5 ++ (w_Ahead dA da z6 ++ (w_Left dA fa z7 ++ (w_Times dA ia z8 ++ (w_Part dA ra z9 ++ (w_Bus dA ba bu ++ (w_W dA za z11)))))))))))) → va_S A s.heap H locs → lv_has ls 5 [(0, .ref (a 0)), (1, .int v1), (2, .int v2), (3, .int v3)] → W p l e ({ frames := 10, cells := 0, slots := 0, locals := 231 } : Room) s m ([.ref (a 0), .int x0, .int x1] : List Value).toArray below meth c H locs 0 0 Q (F0 m 75 ls []) := by
    intro n
    induction n with
    | zero =>
      intro v1 v2 v3 z0 z3 z4 z5 z6 z7 z8 z9 z11 H locs ls hf
      exact absurd hf (by simp [f_X12_odds_b75])
    | succ n ih =>
      intro v1 v2 v3 z0 z3 z4 z5 z6 z7 z8 z9 z11 H locs ls hf hP hD hS hl
      rw [f_X12_odds_b75] at hf
      refine lv_iload_n hx hb dX12_odds_75 rfl (lv_at hl 3 rfl) ?_
      refine lv_bipush (v := (56 : Int32)) hx hb dX12_odds_76 (by decide) ?_
      refine lv_icmp_ge (tgt := 99) hx hb dX12_odds_78 (by decide) (fun c_11 => ?_) (fun c_11 => ?_)
      · rw [if_pos c_11] at hf
        refine lv_aload_n hx hb dX12_odds_99 rfl (lv_at hl 0 rfl) ?_
        refine lv_aload_n hx hb dX12_odds_100 rfl (lv_at hl 0 rfl) ?_
        refine va_get (D := D) (ci := 12) (v := .ref (za 0)) (C := RX12) (T := TX12) (N := 35) hx hb hts kb_inX12 hown hK.1 hP 0 rfl rfl 17 (by decide) (hK.2.w ww_5_217 rfl _) (fun _ h9 => h9) rfl dX12_odds_101 ?_
        refine va_put (D := D) (ci := 12) (v := .ref (za 0)) (ty := .array .int) (C := RX12) (T := TX12) (N := 35) hx hb hts kb_inX12 tyX12 tyX12_ok nmX12 hown hK.1 hP hD hS 0 rfl rfl 19 (by decide) (hK.2.w ww_5_219 rfl _) (fun _ h9 => h9) rfl (by decide +kernel) rfl rfl (Nat.le_of_ble_eq_true rfl) dX12_odds_104 (fun H locs hP hD hS => ?_)
        have hP : va_P D vwCl (w_MO dA a (some (ba 0)) q1 g2 (wa 0) (za 0) g5 (za 0) (la 0) (ha 0) (ca 0) (na 0) (da 0) (fa 0) (ia 0) (ra 0) g15 g16 g17 g18 z0 ++ (w_W dA wa y_w ++ (w_Looks dA la y_looks ++ (w_Who dA ha z3 ++ (w_Look dA ca z4 ++ (w_Coming dA na z5 ++ (w_Ahead dA da z6 ++ (w_Left dA fa z7 ++ (w_Times dA ia z8 ++ (w_Part dA ra z9 ++ (w_Bus dA ba bu ++ (w_W dA za z11)))))))))))) H := hP
        have hD : va_D A (w_MO dA a (some (ba 0)) q1 g2 (wa 0) (za 0) g5 (za 0) (la 0) (ha 0) (ca 0) (na 0) (da 0) (fa 0) (ia 0) (ra 0) g15 g16 g17 g18 z0 ++ (w_W dA wa y_w ++ (w_Looks dA la y_looks ++ (w_Who dA ha z3 ++ (w_Look dA ca z4 ++ (w_Coming dA na z5 ++ (w_Ahead dA da z6 ++ (w_Left dA fa z7 ++ (w_Times dA ia z8 ++ (w_Part dA ra z9 ++ (w_Bus dA ba bu ++ (w_W dA za z11)))))))))))) := hD
        refine lv_aload_n hx hb dX12_odds_107 rfl (lv_at hl 0 rfl) ?_
        refine lv_aload_n hx hb dX12_odds_108 rfl (lv_at hl 0 rfl) ?_
        refine va_get (D := D) (ci := 12) (v := .ref (za 0)) (C := RX12) (T := TX12) (N := 35) hx hb hts kb_inX12 hown hK.1 hP 0 rfl rfl 19 (by decide) (hK.2.w ww_5_219 rfl _) (fun _ h9 => h9) rfl dX12_odds_109 ?_
        refine lv_bipush (v := (52 : Int32)) hx hb dX12_odds_112 (by decide) ?_
        obtain ⟨h_12, hf⟩ := kb_if hf
        refine va_iald (D := D) hx hb hK.1 hP 26 0 rfl rfl h_12 dX12_odds_114 ?_
        obtain ⟨r13, hc13, hf⟩ := kb_bind hf
        refine kb_cv (ws2 := (w_MO dA a (some (ba 0)) q1 g2 (wa 0) (za 0) g5 (za 0) (la 0) (ha 0) (ca 0) (na 0) (da 0) (fa 0) (ia 0) (ra 0) g15 g16 g17 g18 z0 ++ (w_W dA wa y_w ++ (w_Looks dA la y_looks ++ (w_Who dA ha r13.2.1 ++ (w_Look dA ca r13.2.2 ++ (w_Coming dA na z5 ++ (w_Ahead dA da z6 ++ (w_Left dA fa z7 ++ (w_Times dA ia z8 ++ (w_Part dA ra z9 ++ (w_Bus dA ba bu ++ (w_W dA za r13.1))))))))))))) (kb_rV (n := 1) (As := [.int ((yW_r z11) ((52 : Int32)).toNatClampNeg)]) (rest := []) hx hb hml hown hK (c_X12_beforeGettingOn l D dA H.size a za la ha ca ba q1 g2 (wa 0) (za 0) g5 (na 0) (da 0) (fa 0) (ia 0) (ra 0) g15 g16 g17 g18 z0 z11 y_looks z3 z4 bu ((yW_r z11) ((52 : Int32)).toNatClampNeg) r13.1 r13.2.1 r13.2.2 hc13) ⟨ww_7_120, ww_7_117, ww_7_119, ws_73, ww_1_12, rfl, by decide, by decide⟩ rfl rfl (by decide +kernel) ⟨Nat.le_of_ble_eq_true rfl, Nat.le_of_ble_eq_true rfl⟩ hP hD hS hA hE [0, 26, 2, 3, 4, 10, 11, 12, 13, 14, 15, 16, 17, 18, 19, 20, 21, 22, 23, 24, 25] rfl (by decide) 0 rfl rfl rfl hl.1 rfl (Nat.le_of_ble_eq_true rfl) dX12_odds_115 ⟨Nat.le_of_ble_eq_true rfl, Nat.le_of_ble_eq_true rfl⟩) hP hD hS hA [0, 26, 2, 3, 4, 10, 11, 12, 13, 14, 15, 16, 17, 18, 19, 20, 21, 22, 23, 24, 25] [1, 5, 6, 7, 8, 9] [6, 0, 8, 9, 10, 1, 2, 3, 4, 5, 11, 12, 13, 14, 15, 16, 17, 18, 19, 20, 21, 22, 23, 24, 25, 26, 7] rfl rfl (by decide) (by decide) rfl (by decide) (fun H locs hP hD hS => ?_)
        exact B_118 _ _ _ _ _ _ _ _ _ _ _ _ _ _ hf hP hD hS (lv_sub hl [0, 1, 2] rfl)
      · rw [if_neg c_11] at hf
        refine lv_aload_n hx hb dX12_odds_81 rfl (lv_at hl 0 rfl) ?_
        refine va_get (D := D) (ci := 12) (v := .ref (za 0)) (C := RX12) (T := TX12) (N := 35) hx hb hts kb_inX12 hown hK.1 hP 0 rfl rfl 17 (by decide) (hK.2.w ww_5_217 rfl _) (fun _ h9 => h9) rfl dX12_odds_82 ?_
        refine lv_iload_n hx hb dX12_odds_85 rfl (lv_at hl 3 rfl) ?_
        refine lv_aload_n hx hb dX12_odds_86 rfl (lv_at hl 0 rfl) ?_
        refine va_get (D := D) (ci := 12) (v := .ref (wa 0)) (C := RX12) (T := TX12) (N := 35) hx hb hts kb_inX12 hown hK.1 hP 0 rfl rfl 19 (by decide) (hK.2.w ww_5_219 rfl _) (fun _ h9 => h9) rfl dX12_odds_87 ?_
        refine lv_iload_n hx hb dX12_odds_90 rfl (lv_at hl 3 rfl) ?_
        obtain ⟨h_16, hf⟩ := kb_if hf
        refine va_iald (D := D) hx hb hK.1 hP 1 0 rfl rfl h_16 dX12_odds_91 ?_
        obtain ⟨h_17, hf⟩ := kb_if hf
        refine va_iast (D := D) hx hb hK.1 hP hD hS 26 0 rfl rfl h_17 dX12_odds_92 (fun H locs hP hD hS => ?_)
        have hP : va_P D vwCl (w_MO dA a (some (ba 0)) q1 g2 (wa 0) (za 0) g5 (wa 0) (la 0) (ha 0) (ca 0) (na 0) (da 0) (fa 0) (ia 0) (ra 0) g15 g16 g17 g18 z0 ++ (w_W dA wa y_w ++ (w_Looks dA la y_looks ++ (w_Who dA ha z3 ++ (w_Look dA ca z4 ++ (w_Coming dA na z5 ++ (w_Ahead dA da z6 ++ (w_Left dA fa z7 ++ (w_Times dA ia z8 ++ (w_Part dA ra z9 ++ (w_Bus dA ba bu ++ (w_W dA za (yW_set_r z11 (upd (yW_r z11) (v3).toNatClampNeg ((yW_r y_w) (v3).toNatClampNeg))))))))))))))) H := hP
        have hD : va_D A (w_MO dA a (some (ba 0)) q1 g2 (wa 0) (za 0) g5 (wa 0) (la 0) (ha 0) (ca 0) (na 0) (da 0) (fa 0) (ia 0) (ra 0) g15 g16 g17 g18 z0 ++ (w_W dA wa y_w ++ (w_Looks dA la y_looks ++ (w_Who dA ha z3 ++ (w_Look dA ca z4 ++ (w_Coming dA na z5 ++ (w_Ahead dA da z6 ++ (w_Left dA fa z7 ++ (w_Times dA ia z8 ++ (w_Part dA ra z9 ++ (w_Bus dA ba bu ++ (w_W dA za (yW_set_r z11 (upd (yW_r z11) (v3).toNatClampNeg ((yW_r y_w) (v3).toNatClampNeg))))))))))))))) := hD
        exact B_93 (f_X12_odds_b75 y_w y_looks bu n) ih _ _ _ _ _ _ _ _ _ _ _ _ _ _ _ hf hP hD hS (lv_sub hl [0, 1, 2, 3] rfl)
  have B_32 : ∀ (v1 : Int32) (v2 : Int32) (z0 : MOT) (z3 : WhoT) (z4 : LookT) (z5 : ComingT) (z6 : AheadT) (z7 : LeftT) (z8 : TimesT) (z9 : PartT) (z11 : WT) (H : Heap) (locs : List Loc) (ls : Array Slot), f_X12_odds_b32 y_w y_looks bu v1 v2 z0 z3 z4 z5 z6 z7 z8 z9 z11 = some (rv, u0, u3, u4, u5, u6, u7, u8, u9, u11) → va_P D vwCl (w_MO dA a (some (ba 0)) q1 g2 (wa 0) (za 0) g5 (wa 0) (la 0) (ha 0) (ca 0) (na 0) (da 0) (fa 0) (ia 0) (ra 0) g15 g16 g17 g18 z0 ++ (w_W dA wa y_w ++ (w_Looks dA la y_looks ++ (w_Who dA ha z3 ++ (w_Look dA ca z4 ++ (w_Coming dA na z5 ++ (w_Ahead dA da z6 ++ (w_Left dA fa z7 ++ (w_Times dA ia z8 ++ (w_Part dA ra z9 ++ (w_Bus dA ba bu ++ (w_W dA za z11)))))))))))) H → va_D A (w_MO dA a (some (ba 0)) q1 g2 (wa 0) (za 0) g5 (wa 0) (la 0) (ha 0) (ca 0) (na 0) (da 0) (fa 0) (ia 0) (ra 0) g15 g16 g17 g18 z0 ++ (w_W dA wa y_w ++ (w_Looks dA la y_looks ++ (w_Who dA ha z3 ++ (w_Look dA ca z4 ++ (w_Coming dA na z5 ++ (w_Ahead dA da z6 ++ (w_Left dA fa z7 ++ (w_Times dA ia z8 ++ (w_Part dA ra z9 ++ (w_Bus dA ba bu ++ (w_W dA za z11)))))))))))) → va_S A s.heap H locs → lv_has ls 5 [(0, .ref (a 0)), (1, .int v1), (2, .int v2)] → W p l e ({ frames := 10, cells := 0, slots := 0, locals := 231 } : Room) s m ([.ref (a 0), .int x0, .int x1] : List Value).toArray below meth c H locs 0 0 Q (F0 m 32 ls []) := by
    intro v1 v2 z0 z3 z4 z5 z6 z7 z8 z9 z11 H locs ls hf hP hD hS hl
    rw [f_X12_odds_b32] at hf
    refine lv_aload_n hx hb dX12_odds_32 rfl (lv_at hl 0 rfl) ?_
    refine va_get (D := D) (ci := 12) (v := .int (mo_comers z0)) (C := RX12) (T := TX12) (N := 35) hx hb hts kb_inX12 hown hK.1 hP 0 rfl rfl 25 (by decide) (hK.2.w ww_5_225 rfl _) (fun _ h9 => h9) rfl dX12_odds_33 ?_
    refine lv_iconst (v := (4 : Int32)) hx hb dX12_odds_36 (by decide) ?_
    refine lv_icmp_le (tgt := 47) hx hb dX12_odds_37 (by decide) (fun c_7 => ?_) (fun c_7 => ?_)
    · rw [if_pos c_7] at hf
      refine lv_aload_n hx hb dX12_odds_47 rfl (lv_at hl 0 rfl) ?_
      refine va_get (D := D) (ci := 12) (v := .ref (ba 0)) (C := RX12) (T := TX12) (N := 35) hx hb hts kb_inX12 hown hK.1 hP 0 rfl rfl 3 (by decide) (hK.2.w ww_5_203 rfl _) (fun _ h9 => h9) rfl dX12_odds_48 ?_
      refine va_getN (D := D) (ci := 11) (v := .ref (ba 3)) (C := RX11) (T := TX11) (N := 26) hx hb hts kb_inX11 hown hK.1 hP 10 rfl rfl 13 (by decide) (hK.2.nb ww_6_107 rfl rfl _) (fun _ h9 => h9) rfl dX12_odds_51 ?_
      refine lv_iload_n hx hb dX12_odds_54 rfl (lv_at hl 1 rfl) ?_
      obtain ⟨h_8, hf⟩ := kb_if hf
      refine va_iald (D := D) hx hb hK.1 hP 13 0 rfl rfl h_8 dX12_odds_55 ?_
      refine lv_aload_n hx hb dX12_odds_56 rfl (lv_at hl 0 rfl) ?_
      refine va_get (D := D) (ci := 12) (v := .ref (wa 0)) (C := RX12) (T := TX12) (N := 35) hx hb hts kb_inX12 hown hK.1 hP 0 rfl rfl 19 (by decide) (hK.2.w ww_5_219 rfl _) (fun _ h9 => h9) rfl dX12_odds_57 ?_
      refine lv_bipush (v := (52 : Int32)) hx hb dX12_odds_60 (by decide) ?_
      obtain ⟨h_9, hf⟩ := kb_if hf
      refine va_iald (D := D) hx hb hK.1 hP 1 0 rfl rfl h_9 dX12_odds_62 ?_
      refine lv_icmp_eq (tgt := 73) hx hb dX12_odds_63 (by decide) (fun c_10 => ?_) (fun c_10 => ?_)
      · rw [if_pos c_10] at hf
        refine lv_iconst (v := (0 : Int32)) hx hb dX12_odds_73 (by decide) ?_
        refine lv_istore_n (lv' := [(3, .int (0 : Int32)), (0, .ref (a 0)), (1, .int v1), (2, .int v2)]) hx hb dX12_odds_74 rfl hl (by decide) rfl (fun ls hl => ?_)
        exact B_75 4096 _ _ _ _ _ _ _ _ _ _ _ _ _ _ _ hf hP hD hS (lv_sub hl [1, 2, 3, 0] rfl)
      · rw [if_neg c_10] at hf
        refine lv_aload_n hx hb dX12_odds_66 rfl (lv_at hl 0 rfl) ?_
        refine lv_iconst (v := (5 : Int32)) hx hb dX12_odds_67 (by decide) ?_
        obtain ⟨r18, hc18, hf⟩ := kb_bind hf
        refine kb_ci (ws2 := (w_MO dA a (some (ba 0)) q1 g2 (wa 0) (za 0) g5 (wa 0) (la 0) (ha 0) (ca 0) (na 0) (da 0) (fa 0) (ia 0) (ra 0) g15 g16 g17 g18 r18.2 ++ (w_W dA wa y_w ++ (w_Looks dA la y_looks ++ (w_Who dA ha z3 ++ (w_Look dA ca z4 ++ (w_Coming dA na z5 ++ (w_Ahead dA da z6 ++ (w_Left dA fa z7 ++ (w_Times dA ia z8 ++ (w_Part dA ra z9 ++ (w_Bus dA ba bu ++ (w_W dA za z11))))))))))))) (kb_rV (n := 1) (As := [.int (5 : Int32)]) (rest := []) hx hb hml hown hK (c_X12_refused l D dA H.size a (some (ba 0)) q1 g2 (wa 0) (za 0) g5 (wa 0) (la 0) (ha 0) (ca 0) (na 0) (da 0) (fa 0) (ia 0) (ra 0) g15 g16 g17 g18 z0 (5 : Int32) r18.1 r18.2 hc18) ⟨ww_6_82, ww_6_79, ww_6_81, ws_46, ww_1_12, rfl, by decide, by decide⟩ rfl rfl (by decide +kernel) ⟨Nat.le_of_ble_eq_true rfl, Nat.le_of_ble_eq_true rfl⟩ hP hD hS hA hE [0] rfl (by decide) 0 rfl rfl rfl hl.1 rfl (Nat.le_of_ble_eq_true rfl) dX12_odds_68 ⟨Nat.le_of_ble_eq_true rfl, Nat.le_of_ble_eq_true rfl⟩) hP hD hS hA [0] [1, 2, 3, 4, 5, 6, 7, 8, 9, 10, 11, 12, 13, 14, 15, 16, 17, 18, 19, 20, 21, 22, 23, 24, 25, 26] [26, 0, 1, 2, 3, 4, 5, 6, 7, 8, 9, 10, 11, 12, 13, 14, 15, 16, 17, 18, 19, 20, 21, 22, 23, 24, 25] rfl rfl (by decide) (by decide) rfl (by decide) (fun H locs hP hD hS => ?_)
        refine lv_i2l hx hb dX12_odds_71 rfl ?_
        exact RET _ _ _ _ _ _ _ _ _ _ H _ ls 72 hf hP hD hS dX12_odds_72
    · rw [if_neg c_7] at hf
      refine lv_aload_n hx hb dX12_odds_40 rfl (lv_at hl 0 rfl) ?_
      refine lv_iconst (v := (3 : Int32)) hx hb dX12_odds_41 (by decide) ?_
      obtain ⟨r19, hc19, hf⟩ := kb_bind hf
      refine kb_ci (ws2 := (w_MO dA a (some (ba 0)) q1 g2 (wa 0) (za 0) g5 (wa 0) (la 0) (ha 0) (ca 0) (na 0) (da 0) (fa 0) (ia 0) (ra 0) g15 g16 g17 g18 r19.2 ++ (w_W dA wa y_w ++ (w_Looks dA la y_looks ++ (w_Who dA ha z3 ++ (w_Look dA ca z4 ++ (w_Coming dA na z5 ++ (w_Ahead dA da z6 ++ (w_Left dA fa z7 ++ (w_Times dA ia z8 ++ (w_Part dA ra z9 ++ (w_Bus dA ba bu ++ (w_W dA za z11))))))))))))) (kb_rV (n := 1) (As := [.int (3 : Int32)]) (rest := []) hx hb hml hown hK (c_X12_refused l D dA H.size a (some (ba 0)) q1 g2 (wa 0) (za 0) g5 (wa 0) (la 0) (ha 0) (ca 0) (na 0) (da 0) (fa 0) (ia 0) (ra 0) g15 g16 g17 g18 z0 (3 : Int32) r19.1 r19.2 hc19) ⟨ww_6_82, ww_6_79, ww_6_81, ws_46, ww_1_12, rfl, by decide, by decide⟩ rfl rfl (by decide +kernel) ⟨Nat.le_of_ble_eq_true rfl, Nat.le_of_ble_eq_true rfl⟩ hP hD hS hA hE [0] rfl (by decide) 0 rfl rfl rfl hl.1 rfl (Nat.le_of_ble_eq_true rfl) dX12_odds_42 ⟨Nat.le_of_ble_eq_true rfl, Nat.le_of_ble_eq_true rfl⟩) hP hD hS hA [0] [1, 2, 3, 4, 5, 6, 7, 8, 9, 10, 11, 12, 13, 14, 15, 16, 17, 18, 19, 20, 21, 22, 23, 24, 25, 26] [26, 0, 1, 2, 3, 4, 5, 6, 7, 8, 9, 10, 11, 12, 13, 14, 15, 16, 17, 18, 19, 20, 21, 22, 23, 24, 25] rfl rfl (by decide) (by decide) rfl (by decide) (fun H locs hP hD hS => ?_)
      refine lv_i2l hx hb dX12_odds_45 rfl ?_
      exact RET _ _ _ _ _ _ _ _ _ _ H _ ls 46 hf hP hD hS dX12_odds_46
  have B_5 : ∀ (v1 : Int32) (v2 : Int32) (z0 : MOT) (z3 : WhoT) (z4 : LookT) (z5 : ComingT) (z6 : AheadT) (z7 : LeftT) (z8 : TimesT) (z9 : PartT) (z11 : WT) (H : Heap) (locs : List Loc) (ls : Array Slot), f_X12_odds_b5 y_w y_looks bu v1 v2 z0 z3 z4 z5 z6 z7 z8 z9 z11 = some (rv, u0, u3, u4, u5, u6, u7, u8, u9, u11) → va_P D vwCl (w_MO dA a (some (ba 0)) q1 g2 (wa 0) (za 0) g5 (wa 0) (la 0) (ha 0) (ca 0) (na 0) (da 0) (fa 0) (ia 0) (ra 0) g15 g16 g17 g18 z0 ++ (w_W dA wa y_w ++ (w_Looks dA la y_looks ++ (w_Who dA ha z3 ++ (w_Look dA ca z4 ++ (w_Coming dA na z5 ++ (w_Ahead dA da z6 ++ (w_Left dA fa z7 ++ (w_Times dA ia z8 ++ (w_Part dA ra z9 ++ (w_Bus dA ba bu ++ (w_W dA za z11)))))))))))) H → va_D A (w_MO dA a (some (ba 0)) q1 g2 (wa 0) (za 0) g5 (wa 0) (la 0) (ha 0) (ca 0) (na 0) (da 0) (fa 0) (ia 0) (ra 0) g15 g16 g17 g18 z0 ++ (w_W dA wa y_w ++ (w_Looks dA la y_looks ++ (w_Who dA ha z3 ++ (w_Look dA ca z4 ++ (w_Coming dA na z5 ++ (w_Ahead dA da z6 ++ (w_Left dA fa z7 ++ (w_Times dA ia z8 ++ (w_Part dA ra z9 ++ (w_Bus dA ba bu ++ (w_W dA za z11)))))))))))) → va_S A s.heap H locs → lv_has ls 5 [(0, .ref (a 0)), (1, .int v1), (2, .int v2)] → W p l e ({ frames := 10, cells := 0, slots := 0, locals := 231 } : Room) s m ([.ref (a 0), .int x0, .int x1] : List Value).toArray below meth c H locs 0 0 Q (F0 m 5 ls []) := by
    intro v1 v2 z0 z3 z4 z5 z6 z7 z8 z9 z11 H locs ls hf hP hD hS hl
    rw [f_X12_odds_b5] at hf
    refine lv_aload_n hx hb dX12_odds_5 rfl (lv_at hl 0 rfl) ?_
    refine lv_iload_n hx hb dX12_odds_6 rfl (lv_at hl 1 rfl) ?_
    obtain ⟨r1, hc1, hf⟩ := kb_bind hf
    refine kb_ci (ws2 := (w_MO dA a (some (ba 0)) q1 g2 (wa 0) (za 0) g5 (wa 0) (la 0) (ha 0) (ca 0) (na 0) (da 0) (fa 0) (ia 0) (ra 0) g15 g16 g17 g18 z0 ++ (w_W dA wa y_w ++ (w_Looks dA la y_looks ++ (w_Who dA ha z3 ++ (w_Look dA ca z4 ++ (w_Coming dA na z5 ++ (w_Ahead dA da z6 ++ (w_Left dA fa z7 ++ (w_Times dA ia z8 ++ (w_Part dA ra z9 ++ (w_Bus dA ba bu ++ (w_W dA za z11))))))))))))) (kb_rV (n := 1) (As := [.int v1]) (rest := []) hx hb hml hown hK (c_X12_isRider l D dA H.size a ba q1 g2 (wa 0) (za 0) g5 (wa 0) (la 0) (ha 0) (ca 0) (na 0) (da 0) (fa 0) (ia 0) (ra 0) g15 g16 g17 g18 z0 bu v1 r1 hc1) ⟨ww_8_5, ww_8_2, ww_8_4, ws_95, ww_1_12, rfl, by decide, by decide⟩ rfl rfl (by decide +kernel) ⟨Nat.le_of_ble_eq_true rfl, Nat.le_of_ble_eq_true rfl⟩ hP hD hS hA hE [0, 10, 11, 12, 13, 14, 15, 16, 17, 18, 19, 20, 21, 22, 23, 24, 25] rfl (by decide) 0 rfl rfl rfl hl.1 rfl (Nat.le_of_ble_eq_true rfl) dX12_odds_7 ⟨Nat.le_of_ble_eq_true rfl, Nat.le_of_ble_eq_true rfl⟩) hP hD hS hA [0, 10, 11, 12, 13, 14, 15, 16, 17, 18, 19, 20, 21, 22, 23, 24, 25] [1, 2, 3, 4, 5, 6, 7, 8, 9, 26] [10, 0, 1, 2, 3, 4, 5, 6, 7, 8, 11, 12, 13, 14, 15, 16, 17, 18, 19, 20, 21, 22, 23, 24, 25, 26, 9] rfl rfl (by decide) (by decide) rfl (by decide) (fun H locs hP hD hS => ?_)
    refine lv_if_eq (tgt := 21) hx hb dX12_odds_10 (by decide) (fun c_2 => ?_) (fun c_2 => ?_)
    · rw [if_pos c_2] at hf
      exact B_21 _ _ _ _ _ _ _ _ _ _ _ _ hf hP hD hS (lv_sub hl [0] rfl)
    · rw [if_neg c_2] at hf
      refine lv_aload_n hx hb dX12_odds_13 rfl (lv_at hl 0 rfl) ?_
      refine lv_iload_n hx hb dX12_odds_14 rfl (lv_at hl 2 rfl) ?_
      obtain ⟨r4, hc4, hf⟩ := kb_bind hf
      refine kb_ci (ws2 := (w_MO dA a (some (ba 0)) q1 g2 (wa 0) (za 0) g5 (wa 0) (la 0) (ha 0) (ca 0) (na 0) (da 0) (fa 0) (ia 0) (ra 0) g15 g16 g17 g18 z0 ++ (w_W dA wa y_w ++ (w_Looks dA la y_looks ++ (w_Who dA ha z3 ++ (w_Look dA ca z4 ++ (w_Coming dA na z5 ++ (w_Ahead dA da z6 ++ (w_Left dA fa z7 ++ (w_Times dA ia z8 ++ (w_Part dA ra z9 ++ (w_Bus dA ba bu ++ (w_W dA za z11))))))))))))) (kb_rV (n := 1) (As := [.int v2]) (rest := []) hx hb hml hown hK (c_X12_isSeat l D dA H.size a ba q1 g2 (wa 0) (za 0) g5 (wa 0) (la 0) (ha 0) (ca 0) (na 0) (da 0) (fa 0) (ia 0) (ra 0) g15 g16 g17 g18 z0 bu v2 r4 hc4) ⟨ww_7_179, ww_7_176, ww_7_178, ws_84, ww_1_12, rfl, by decide, by decide⟩ rfl rfl (by decide +kernel) ⟨Nat.le_of_ble_eq_true rfl, Nat.le_of_ble_eq_true rfl⟩ hP hD hS hA hE [0, 10, 11, 12, 13, 14, 15, 16, 17, 18, 19, 20, 21, 22, 23, 24, 25] rfl (by decide) 0 rfl rfl rfl hl.1 rfl (Nat.le_of_ble_eq_true rfl) dX12_odds_15 ⟨Nat.le_of_ble_eq_true rfl, Nat.le_of_ble_eq_true rfl⟩) hP hD hS hA [0, 10, 11, 12, 13, 14, 15, 16, 17, 18, 19, 20, 21, 22, 23, 24, 25] [1, 2, 3, 4, 5, 6, 7, 8, 9, 26] [10, 0, 1, 2, 3, 4, 5, 6, 7, 8, 11, 12, 13, 14, 15, 16, 17, 18, 19, 20, 21, 22, 23, 24, 25, 26, 9] rfl rfl (by decide) (by decide) rfl (by decide) (fun H locs hP hD hS => ?_)
      refine lv_if_ne (tgt := 28) hx hb dX12_odds_18 (by decide) (fun c_5 => ?_) (fun c_5 => ?_)
      · rw [if_neg c_5] at hf
        refine lv_aload_n hx hb dX12_odds_28 rfl (lv_at hl 0 rfl) ?_
        obtain ⟨r6, hc6, hf⟩ := kb_bind hf
        refine kb_cv (ws2 := (w_MO dA a (some (ba 0)) q1 g2 (wa 0) (za 0) g5 (wa 0) (la 0) (ha 0) (ca 0) (na 0) (da 0) (fa 0) (ia 0) (ra 0) g15 g16 g17 g18 r6.1 ++ (w_W dA wa y_w ++ (w_Looks dA la y_looks ++ (w_Who dA ha z3 ++ (w_Look dA ca z4 ++ (w_Coming dA na r6.2 ++ (w_Ahead dA da z6 ++ (w_Left dA fa z7 ++ (w_Times dA ia z8 ++ (w_Part dA ra z9 ++ (w_Bus dA ba bu ++ (w_W dA za z11))))))))))))) (kb_rV (n := 0) (As := []) (rest := []) hx hb hml hown hK (c_X12_comes l D dA H.size a wa na ba q1 g2 (wa 0) (za 0) g5 (la 0) (ha 0) (ca 0) (da 0) (fa 0) (ia 0) (ra 0) g15 g16 g17 g18 z0 y_w z5 bu r6.1 r6.2 hc6) ⟨ww_8_88, ww_8_85, ww_8_87, ws_102, ww_1_12, rfl, by decide, by decide⟩ rfl rfl (by decide +kernel) ⟨Nat.le_of_ble_eq_true rfl, Nat.le_of_ble_eq_true rfl⟩ hP hD hS hA hE [0, 1, 5, 10, 11, 12, 13, 14, 15, 16, 17, 18, 19, 20, 21, 22, 23, 24, 25] rfl (by decide) 0 rfl rfl rfl hl.1 rfl (Nat.le_of_ble_eq_true rfl) dX12_odds_29 ⟨Nat.le_of_ble_eq_true rfl, Nat.le_of_ble_eq_true rfl⟩) hP hD hS hA [0, 1, 5, 10, 11, 12, 13, 14, 15, 16, 17, 18, 19, 20, 21, 22, 23, 24, 25] [2, 3, 4, 6, 7, 8, 9, 26] [8, 9, 0, 1, 2, 10, 3, 4, 5, 6, 11, 12, 13, 14, 15, 16, 17, 18, 19, 20, 21, 22, 23, 24, 25, 26, 7] rfl rfl (by decide) (by decide) rfl (by decide) (fun H locs hP hD hS => ?_)
        exact B_32 _ _ _ _ _ _ _ _ _ _ _ _ _ _ hf hP hD hS (lv_sub hl [0, 1, 2] rfl)
      · rw [if_pos c_5] at hf
        exact B_21 _ _ _ _ _ _ _ _ _ _ _ _ hf hP hD hS (lv_sub hl [0] rfl)
  have E0 : ∀ (H : Heap) (locs : List Loc), va_P D vwCl (w_MO dA a (some (ba 0)) q1 g2 (wa 0) (za 0) g5 (wa 0) (la 0) (ha 0) (ca 0) (na 0) (da 0) (fa 0) (ia 0) (ra 0) g15 g16 g17 g18 mo ++ (w_W dA wa y_w ++ (w_Looks dA la y_looks ++ (w_Who dA ha y_who ++ (w_Look dA ca y_look ++ (w_Coming dA na y_coming ++ (w_Ahead dA da y_ahead ++ (w_Left dA fa y_left ++ (w_Times dA ia y_times ++ (w_Part dA ra y_part ++ (w_Bus dA ba bu ++ (w_W dA za y_other)))))))))))) H → va_D A (w_MO dA a (some (ba 0)) q1 g2 (wa 0) (za 0) g5 (wa 0) (la 0) (ha 0) (ca 0) (na 0) (da 0) (fa 0) (ia 0) (ra 0) g15 g16 g17 g18 mo ++ (w_W dA wa y_w ++ (w_Looks dA la y_looks ++ (w_Who dA ha y_who ++ (w_Look dA ca y_look ++ (w_Coming dA na y_coming ++ (w_Ahead dA da y_ahead ++ (w_Left dA fa y_left ++ (w_Times dA ia y_times ++ (w_Part dA ra y_part ++ (w_Bus dA ba bu ++ (w_W dA za y_other)))))))))))) → va_S A s.heap H locs → W p l e ({ frames := 10, cells := 0, slots := 0, locals := 231 } : Room) s m ([.ref (a 0), .int x0, .int x1] : List Value).toArray below meth c H locs 0 0 Q (F0 m 0 ls []) := by
    intro H locs hP hD hS
    rw [f_X12_odds] at hf
    refine lv_aload_n hx hb dX12_odds_0 rfl (lv_at hl 0 rfl) ?_
    refine lv_iconst (v := (0 : Int32)) hx hb dX12_odds_1 (by decide) ?_
    refine va_put (D := D) (ci := 12) (v := .int (0 : Int32)) (ty := .int) (C := RX12) (T := TX12) (N := 35) hx hb hts kb_inX12 tyX12 tyX12_ok nmX12 hown hK.1 hP hD hS 0 rfl rfl 0 (by decide) (hK.2.w ww_5_200 rfl _) (fun _ h9 => h9) rfl (by decide +kernel) rfl rfl (Nat.le_of_ble_eq_true rfl) dX12_odds_2 (fun H locs hP hD hS => ?_)
    have hP : va_P D vwCl (w_MO dA a (some (ba 0)) q1 g2 (wa 0) (za 0) g5 (wa 0) (la 0) (ha 0) (ca 0) (na 0) (da 0) (fa 0) (ia 0) (ra 0) g15 g16 g17 g18 (mo_set_thrown mo (0 : Int32)) ++ (w_W dA wa y_w ++ (w_Looks dA la y_looks ++ (w_Who dA ha y_who ++ (w_Look dA ca y_look ++ (w_Coming dA na y_coming ++ (w_Ahead dA da y_ahead ++ (w_Left dA fa y_left ++ (w_Times dA ia y_times ++ (w_Part dA ra y_part ++ (w_Bus dA ba bu ++ (w_W dA za y_other)))))))))))) H := hP
    have hD : va_D A (w_MO dA a (some (ba 0)) q1 g2 (wa 0) (za 0) g5 (wa 0) (la 0) (ha 0) (ca 0) (na 0) (da 0) (fa 0) (ia 0) (ra 0) g15 g16 g17 g18 (mo_set_thrown mo (0 : Int32)) ++ (w_W dA wa y_w ++ (w_Looks dA la y_looks ++ (w_Who dA ha y_who ++ (w_Look dA ca y_look ++ (w_Coming dA na y_coming ++ (w_Ahead dA da y_ahead ++ (w_Left dA fa y_left ++ (w_Times dA ia y_times ++ (w_Part dA ra y_part ++ (w_Bus dA ba bu ++ (w_W dA za y_other)))))))))))) := hD
    exact B_5 _ _ _ _ _ _ _ _ _ _ _ _ _ _ hf hP hD hS (lv_sub hl [0, 1, 2] rfl)
  exact E0 _ _ hP hD hS

noncomputable def f_X12_ways_b62 (y_w : WT) (bu : BusT) : Nat → Int64 → Int32 → MOT → ComingT → Option (Int64 × MOT × ComingT)
  | 0, _, _, _, _ => none
  | n + 1, v1, v3, z0, z2 => (if (mo_comers z0) ≤ v3 then (f_X12_doneLong z0 v1).bind fun r6 => some (r6.1, r6.2, z2) else f_X12_ways_b62 y_w bu n (v1 * (27720 : Int64)) (v3 + (1 : Int32)) z0 z2)
noncomputable def f_X12_ways_b23 (y_w : WT) (bu : BusT) (z0 : MOT) (z2 : ComingT) : Option (Int64 × MOT × ComingT) := (if (mo_comers z0) ≤ (4 : Int32) then if kb_in? (52 : Int32) 56 then (if ((yW_r y_w) ((52 : Int32)).toNatClampNeg) = (12 : Int32) then (f_X12_refused z0 (6 : Int32)).bind fun r7 => some ((r7.1).toInt64, r7.2, z2) else f_X12_ways_b62 y_w bu 4096 (1 : Int64) (0 : Int32) z0 z2) else none else (f_X12_refused z0 (3 : Int32)).bind fun r8 => some ((r8.1).toInt64, r8.2, z2))
noncomputable def f_X12_ways_b5 (y_w : WT) (bu : BusT) (z0 : MOT) (z2 : ComingT) : Option (Int64 × MOT × ComingT) := (f_X12_comes z0 y_w z2 bu).bind fun r1 => f_X12_ways_b23 y_w bu r1.1 r1.2
noncomputable def f_X12_ways (mo : MOT) (y_w : WT) (y_coming : ComingT) (bu : BusT) : Option (Int64 × MOT × ComingT) := f_X12_ways_b5 y_w bu (mo_set_thrown mo (0 : Int32)) y_coming
set_option maxHeartbeats 4000000 in
set_option maxRecDepth 100000 in
theorem c_X12_ways (l : Launch) (D : va_G) (dA : Nat → ClassId) (sz : Nat) (a : Nat → Nat) (wa : Nat → Nat) (na : Nat → Nat) (ba : Nat → Nat) (q1 : Option Nat) (g2 : Nat) (g3 : Nat) (g4 : Nat) (g5 : Nat) (g7 : Nat) (g8 : Nat) (g9 : Nat) (g11 : Nat) (g12 : Nat) (g13 : Nat) (g14 : Nat) (g15 : Nat) (g16 : Nat) (g17 : Nat) (g18 : Nat) (mo : MOT) (y_w : WT) (y_coming : ComingT) (bu : BusT) (rv : Int64) (u0 : MOT) (u2 : ComingT) (hf : f_X12_ways mo y_w y_coming bu = some (rv, u0, u2)) : kb_Ml l yX12_ways cX12_ways 4 (some .long) ({ frames := 2, cells := 0, slots := 0, locals := 43 } : Room) D dA [.ref (a 0)] sz (w_MO dA a (some (ba 0)) q1 g2 g3 g4 g5 (wa 0) g7 g8 g9 (na 0) g11 g12 g13 g14 g15 g16 g17 g18 mo ++ (w_W dA wa y_w ++ (w_Coming dA na y_coming ++ (w_Bus dA ba bu)))) 0 0 rv (w_MO dA a (some (ba 0)) q1 g2 g3 g4 g5 (wa 0) g7 g8 g9 (na 0) g11 g12 g13 g14 g15 g16 g17 g18 u0 ++ (w_W dA wa y_w ++ (w_Coming dA na u2 ++ (w_Bus dA ba bu)))) := by
  refine Met.ofW (cc := cX12_ways) (maxL := 4) (ret := (some .long)) (by decide) rfl ?_
  intro p e s m args below meth c s₁ B hml hv
  obtain ⟨rfl, hsz, hP, hK, hD0, hE⟩ := hv
  have hx := B.exec
  have hb := B.bytes
  have hr := B.returns
  have hown : s.vm.findClass RX12 = some m.cls := findClass_of_methodNamed B.named
  have hlocks := B.notSynchronized
  have hts : ∀ w ∈ kb_gw, w.before ([.ref (a 0)] : List Value).toArray s = true := fun w hw => hK.2.1 w hw _
  subst hsz
  have hD := hD0.self (sz := s.heap.size)
  generalize hAe : va_A (w_MO dA a (some (ba 0)) q1 g2 g3 g4 g5 (wa 0) g7 g8 g9 (na 0) g11 g12 g13 g14 g15 g16 g17 g18 mo ++ (w_W dA wa y_w ++ (w_Coming dA na y_coming ++ (w_Bus dA ba bu)))) s.heap.size = A at hD hE ⊢
  have hA : ∀ q : Nat, s.heap.size ≤ q → A q := fun q h => by rw [← hAe]; exact Or.inr h
  have hS : va_S A s.heap s.heap [] := va_S.rf
  have hl := lv_entry ([.ref (a 0)]) (n := 4) (Nat.le_of_ble_eq_true rfl)
  rw [lg_entry_eq]
  generalize (lg_sl ([.ref (a 0)]) ++ List.replicate (4 - (lg_sl ([.ref (a 0)])).length) Slot.unset).toArray = ls at hl ⊢
  have hl : lv_has ls 4 [(0, .ref (a 0))] := hl
  generalize hQ : MQ below (va_Ql (fun r (_ : Unit) => r = rv) (kb_B D A (w_MO dA a (some (ba 0)) q1 g2 g3 g4 g5 (wa 0) g7 g8 g9 (na 0) g11 g12 g13 g14 g15 g16 g17 g18 u0 ++ (w_W dA wa y_w ++ (w_Coming dA na u2 ++ (w_Bus dA ba bu))))) A) ([.ref (a 0)] : List Value).toArray s 0 0 A = Q
  show W p l e ({ frames := 2, cells := 0, slots := 0, locals := 43 } : Room) s m ([.ref (a 0)] : List Value).toArray below meth c s.heap [] 0 0 Q (F0 m 0 ls [])
  have RET : ∀ (r2 : Int64) (w0 : MOT) (w2 : ComingT) (H : Heap) (locs : List Loc) (ls : Array Slot) (pc : Nat), some (r2, w0, w2) = some (rv, u0, u2) → va_P D vwCl (w_MO dA a (some (ba 0)) q1 g2 g3 g4 g5 (wa 0) g7 g8 g9 (na 0) g11 g12 g13 g14 g15 g16 g17 g18 w0 ++ (w_W dA wa y_w ++ (w_Coming dA na w2 ++ (w_Bus dA ba bu)))) H → va_D A (w_MO dA a (some (ba 0)) q1 g2 g3 g4 g5 (wa 0) g7 g8 g9 (na 0) g11 g12 g13 g14 g15 g16 g17 g18 w0 ++ (w_W dA wa y_w ++ (w_Coming dA na w2 ++ (w_Bus dA ba bu)))) → va_S A s.heap H locs → decode cX12_ways pc = .ok (.lreturn, 1) → W p l e ({ frames := 2, cells := 0, slots := 0, locals := 43 } : Room) s m ([.ref (a 0)] : List Value).toArray below meth c H locs 0 0 Q (F0 m pc ls [.long r2]) := by
    intro r2 w0 w2 H locs ls pc hq hP hD hS hd
    cases hq
    rw [← hQ]
    exact W.lret hx hb hr (fun t ht hW => ⟨⟨_, (), rfl, rfl, by rw [ht]; exact hP, hD⟩, hS.F ht⟩) hS.2.2 hd
  have B_62 : ∀ (n : Nat) (v1 : Int64) (v3 : Int32) (z0 : MOT) (z2 : ComingT) (H : Heap) (locs : List Loc) (ls : Array Slot), f_X12_ways_b62 y_w bu n v1 v3 z0 z2 = some (rv, u0, u2) → va_P D vwCl (w_MO dA a (some (ba 0)) q1 g2 g3 g4 g5 (wa 0) g7 g8 g9 (na 0) g11 g12 g13 g14 g15 g16 g17 g18 z0 ++ (w_W dA wa y_w ++ (w_Coming dA na z2 ++ (w_Bus dA ba bu)))) H → va_D A (w_MO dA a (some (ba 0)) q1 g2 g3 g4 g5 (wa 0) g7 g8 g9 (na 0) g11 g12 g13 g14 g15 g16 g17 g18 z0 ++ (w_W dA wa y_w ++ (w_Coming dA na z2 ++ (w_Bus dA ba bu)))) → va_S A s.heap H locs → lv_has ls 4 [(0, .ref (a 0)), (1, .long v1), (3, .int v3)] → W p l e ({ frames := 2, cells := 0, slots := 0, locals := 43 } : Room) s m ([.ref (a 0)] : List Value).toArray below meth c H locs 0 0 Q (F0 m 62 ls []) := by
    intro n
    induction n with
    | zero =>
      intro v1 v3 z0 z2 H locs ls hf
      exact absurd hf (by simp [f_X12_ways_b62])
    | succ n ih =>
      intro v1 v3 z0 z2 H locs ls hf hP hD hS hl
      rw [f_X12_ways_b62] at hf
      refine lv_iload_n hx hb dX12_ways_62 rfl (lv_at hl 2 rfl) ?_
      refine lv_aload_n hx hb dX12_ways_63 rfl (lv_at hl 0 rfl) ?_
      refine va_get (D := D) (ci := 12) (v := .int (mo_comers z0)) (C := RX12) (T := TX12) (N := 35) hx hb hts kb_inX12 hown hK.1 hP 0 rfl rfl 25 (by decide) (hK.2.w ww_5_225 rfl _) (fun _ h9 => h9) rfl dX12_ways_64 ?_
      refine lv_icmp_ge (tgt := 82) hx hb dX12_ways_67 (by decide) (fun c_5 => ?_) (fun c_5 => ?_)
      · rw [if_pos c_5] at hf
        refine lv_aload_n hx hb dX12_ways_82 rfl (lv_at hl 0 rfl) ?_
        refine lv_lload_n hx hb dX12_ways_83 rfl (lv_at hl 1 rfl) ?_
        obtain ⟨r6, hc6, hf⟩ := kb_bind hf
        refine kb_cl (ws2 := (w_MO dA a (some (ba 0)) q1 g2 g3 g4 g5 (wa 0) g7 g8 g9 (na 0) g11 g12 g13 g14 g15 g16 g17 g18 r6.2 ++ (w_W dA wa y_w ++ (w_Coming dA na z2 ++ (w_Bus dA ba bu))))) (kb_rV (n := 1) (As := [.long v1]) (rest := []) hx hb hml hown hK (c_X12_doneLong l D dA H.size a (some (ba 0)) q1 g2 g3 g4 g5 (wa 0) g7 g8 g9 (na 0) g11 g12 g13 g14 g15 g16 g17 g18 z0 v1 r6.1 r6.2 hc6) ⟨ww_8_105, ww_8_102, ww_8_104, ws_106, ww_1_12, rfl, by decide, by decide⟩ rfl rfl (by decide +kernel) ⟨Nat.le_of_ble_eq_true rfl, Nat.le_of_ble_eq_true rfl⟩ hP hD hS hA hE [0] rfl (by decide) 0 rfl rfl rfl hl.1 rfl (Nat.le_of_ble_eq_true rfl) dX12_ways_84 ⟨Nat.le_of_ble_eq_true rfl, Nat.le_of_ble_eq_true rfl⟩) hP hD hS hA [0] [1, 2, 3, 4, 5, 6, 7, 8, 9, 10, 11, 12, 13, 14, 15, 16, 17, 18] [18, 0, 1, 2, 3, 4, 5, 6, 7, 8, 9, 10, 11, 12, 13, 14, 15, 16, 17] rfl rfl (by decide) (by decide) rfl (by decide) (fun H locs hP hD hS => ?_)
        exact RET _ _ _ H _ ls 87 hf hP hD hS dX12_ways_87
      · rw [if_neg c_5] at hf
        refine lv_lload_n hx hb dX12_ways_70 rfl (lv_at hl 1 rfl) ?_
        refine lv_ldc2 (v := (27720 : Int64)) hx hb hown (hK.2.w ww_8_110 rfl _) dX12_ways_71 ?_
        refine lv_lmul hx hb dX12_ways_74 ?_
        refine lv_lstore_n (lv' := [(1, .long (v1 * (27720 : Int64))), (0, .ref (a 0)), (3, .int v3)]) hx hb dX12_ways_75 rfl hl (by decide) rfl (fun ls hl => ?_)
        refine lv_iinc (v := (v3 + (1 : Int32))) (lv' := [(3, .int (v3 + (1 : Int32))), (1, .long (v1 * (27720 : Int64))), (0, .ref (a 0))]) hx hb dX12_ways_76 hl (k := 2) rfl (by rfl) (by decide) rfl (fun ls hl => ?_)
        refine lv_goto (tgt := 62) hx hb dX12_ways_79 (by decide) ?_
        exact ih _ _ _ _ _ _ _ hf hP hD hS (lv_sub hl [2, 1, 0] rfl)
  have B_23 : ∀ (z0 : MOT) (z2 : ComingT) (H : Heap) (locs : List Loc) (ls : Array Slot), f_X12_ways_b23 y_w bu z0 z2 = some (rv, u0, u2) → va_P D vwCl (w_MO dA a (some (ba 0)) q1 g2 g3 g4 g5 (wa 0) g7 g8 g9 (na 0) g11 g12 g13 g14 g15 g16 g17 g18 z0 ++ (w_W dA wa y_w ++ (w_Coming dA na z2 ++ (w_Bus dA ba bu)))) H → va_D A (w_MO dA a (some (ba 0)) q1 g2 g3 g4 g5 (wa 0) g7 g8 g9 (na 0) g11 g12 g13 g14 g15 g16 g17 g18 z0 ++ (w_W dA wa y_w ++ (w_Coming dA na z2 ++ (w_Bus dA ba bu)))) → va_S A s.heap H locs → lv_has ls 4 [(0, .ref (a 0))] → W p l e ({ frames := 2, cells := 0, slots := 0, locals := 43 } : Room) s m ([.ref (a 0)] : List Value).toArray below meth c H locs 0 0 Q (F0 m 23 ls []) := by
    intro z0 z2 H locs ls hf hP hD hS hl
    rw [f_X12_ways_b23] at hf
    refine lv_aload_n hx hb dX12_ways_23 rfl (lv_at hl 0 rfl) ?_
    refine va_get (D := D) (ci := 12) (v := .int (mo_comers z0)) (C := RX12) (T := TX12) (N := 35) hx hb hts kb_inX12 hown hK.1 hP 0 rfl rfl 25 (by decide) (hK.2.w ww_5_225 rfl _) (fun _ h9 => h9) rfl dX12_ways_24 ?_
    refine lv_iconst (v := (4 : Int32)) hx hb dX12_ways_27 (by decide) ?_
    refine lv_icmp_le (tgt := 38) hx hb dX12_ways_28 (by decide) (fun c_2 => ?_) (fun c_2 => ?_)
    · rw [if_pos c_2] at hf
      refine lv_aload_n hx hb dX12_ways_38 rfl (lv_at hl 0 rfl) ?_
      refine va_get (D := D) (ci := 12) (v := .ref (wa 0)) (C := RX12) (T := TX12) (N := 35) hx hb hts kb_inX12 hown hK.1 hP 0 rfl rfl 19 (by decide) (hK.2.w ww_5_219 rfl _) (fun _ h9 => h9) rfl dX12_ways_39 ?_
      refine lv_bipush (v := (52 : Int32)) hx hb dX12_ways_42 (by decide) ?_
      obtain ⟨h_3, hf⟩ := kb_if hf
      refine va_iald (D := D) hx hb hK.1 hP 1 0 rfl rfl h_3 dX12_ways_44 ?_
      refine lv_bipush (v := (12 : Int32)) hx hb dX12_ways_45 (by decide) ?_
      refine lv_icmp_ne (tgt := 58) hx hb dX12_ways_47 (by decide) (fun c_4 => ?_) (fun c_4 => ?_)
      · rw [if_neg c_4] at hf
        refine lv_lconst (v := (1 : Int64)) hx hb dX12_ways_58 (by decide) ?_
        refine lv_lstore_n (lv' := [(1, .long (1 : Int64)), (0, .ref (a 0))]) hx hb dX12_ways_59 rfl hl (by decide) rfl (fun ls hl => ?_)
        refine lv_iconst (v := (0 : Int32)) hx hb dX12_ways_60 (by decide) ?_
        refine lv_istore_n (lv' := [(3, .int (0 : Int32)), (1, .long (1 : Int64)), (0, .ref (a 0))]) hx hb dX12_ways_61 rfl hl (by decide) rfl (fun ls hl => ?_)
        exact B_62 4096 _ _ _ _ _ _ _ hf hP hD hS (lv_sub hl [2, 1, 0] rfl)
      · rw [if_pos c_4] at hf
        refine lv_aload_n hx hb dX12_ways_50 rfl (lv_at hl 0 rfl) ?_
        refine lv_bipush (v := (6 : Int32)) hx hb dX12_ways_51 (by decide) ?_
        obtain ⟨r7, hc7, hf⟩ := kb_bind hf
        refine kb_ci (ws2 := (w_MO dA a (some (ba 0)) q1 g2 g3 g4 g5 (wa 0) g7 g8 g9 (na 0) g11 g12 g13 g14 g15 g16 g17 g18 r7.2 ++ (w_W dA wa y_w ++ (w_Coming dA na z2 ++ (w_Bus dA ba bu))))) (kb_rV (n := 1) (As := [.int (6 : Int32)]) (rest := []) hx hb hml hown hK (c_X12_refused l D dA H.size a (some (ba 0)) q1 g2 g3 g4 g5 (wa 0) g7 g8 g9 (na 0) g11 g12 g13 g14 g15 g16 g17 g18 z0 (6 : Int32) r7.1 r7.2 hc7) ⟨ww_6_82, ww_6_79, ww_6_81, ws_46, ww_1_12, rfl, by decide, by decide⟩ rfl rfl (by decide +kernel) ⟨Nat.le_of_ble_eq_true rfl, Nat.le_of_ble_eq_true rfl⟩ hP hD hS hA hE [0] rfl (by decide) 0 rfl rfl rfl hl.1 rfl (Nat.le_of_ble_eq_true rfl) dX12_ways_53 ⟨Nat.le_of_ble_eq_true rfl, Nat.le_of_ble_eq_true rfl⟩) hP hD hS hA [0] [1, 2, 3, 4, 5, 6, 7, 8, 9, 10, 11, 12, 13, 14, 15, 16, 17, 18] [18, 0, 1, 2, 3, 4, 5, 6, 7, 8, 9, 10, 11, 12, 13, 14, 15, 16, 17] rfl rfl (by decide) (by decide) rfl (by decide) (fun H locs hP hD hS => ?_)
        refine lv_i2l hx hb dX12_ways_56 rfl ?_
        exact RET _ _ _ H _ ls 57 hf hP hD hS dX12_ways_57
    · rw [if_neg c_2] at hf
      refine lv_aload_n hx hb dX12_ways_31 rfl (lv_at hl 0 rfl) ?_
      refine lv_iconst (v := (3 : Int32)) hx hb dX12_ways_32 (by decide) ?_
      obtain ⟨r8, hc8, hf⟩ := kb_bind hf
      refine kb_ci (ws2 := (w_MO dA a (some (ba 0)) q1 g2 g3 g4 g5 (wa 0) g7 g8 g9 (na 0) g11 g12 g13 g14 g15 g16 g17 g18 r8.2 ++ (w_W dA wa y_w ++ (w_Coming dA na z2 ++ (w_Bus dA ba bu))))) (kb_rV (n := 1) (As := [.int (3 : Int32)]) (rest := []) hx hb hml hown hK (c_X12_refused l D dA H.size a (some (ba 0)) q1 g2 g3 g4 g5 (wa 0) g7 g8 g9 (na 0) g11 g12 g13 g14 g15 g16 g17 g18 z0 (3 : Int32) r8.1 r8.2 hc8) ⟨ww_6_82, ww_6_79, ww_6_81, ws_46, ww_1_12, rfl, by decide, by decide⟩ rfl rfl (by decide +kernel) ⟨Nat.le_of_ble_eq_true rfl, Nat.le_of_ble_eq_true rfl⟩ hP hD hS hA hE [0] rfl (by decide) 0 rfl rfl rfl hl.1 rfl (Nat.le_of_ble_eq_true rfl) dX12_ways_33 ⟨Nat.le_of_ble_eq_true rfl, Nat.le_of_ble_eq_true rfl⟩) hP hD hS hA [0] [1, 2, 3, 4, 5, 6, 7, 8, 9, 10, 11, 12, 13, 14, 15, 16, 17, 18] [18, 0, 1, 2, 3, 4, 5, 6, 7, 8, 9, 10, 11, 12, 13, 14, 15, 16, 17] rfl rfl (by decide) (by decide) rfl (by decide) (fun H locs hP hD hS => ?_)
      refine lv_i2l hx hb dX12_ways_36 rfl ?_
      exact RET _ _ _ H _ ls 37 hf hP hD hS dX12_ways_37
  have B_5 : ∀ (z0 : MOT) (z2 : ComingT) (H : Heap) (locs : List Loc) (ls : Array Slot), f_X12_ways_b5 y_w bu z0 z2 = some (rv, u0, u2) → va_P D vwCl (w_MO dA a (some (ba 0)) q1 g2 g3 g4 g5 (wa 0) g7 g8 g9 (na 0) g11 g12 g13 g14 g15 g16 g17 g18 z0 ++ (w_W dA wa y_w ++ (w_Coming dA na z2 ++ (w_Bus dA ba bu)))) H → va_D A (w_MO dA a (some (ba 0)) q1 g2 g3 g4 g5 (wa 0) g7 g8 g9 (na 0) g11 g12 g13 g14 g15 g16 g17 g18 z0 ++ (w_W dA wa y_w ++ (w_Coming dA na z2 ++ (w_Bus dA ba bu)))) → va_S A s.heap H locs → lv_has ls 4 [(0, .ref (a 0))] → W p l e ({ frames := 2, cells := 0, slots := 0, locals := 43 } : Room) s m ([.ref (a 0)] : List Value).toArray below meth c H locs 0 0 Q (F0 m 5 ls []) := by
    intro z0 z2 H locs ls hf hP hD hS hl
    rw [f_X12_ways_b5] at hf
    refine lv_aload_n hx hb dX12_ways_5 rfl (lv_at hl 0 rfl) ?_
    refine va_get (D := D) (ci := 12) (v := .ref (ba 0)) (C := RX12) (T := TX12) (N := 35) hx hb hts kb_inX12 hown hK.1 hP 0 rfl rfl 3 (by decide) (hK.2.w ww_5_203 rfl _) (fun _ h9 => h9) rfl dX12_ways_6 ?_
    refine lv_ifnonnull (tgt := 19) hx hb dX12_ways_9 (by decide) ?_
    refine lv_aload_n hx hb dX12_ways_19 rfl (lv_at hl 0 rfl) ?_
    obtain ⟨r1, hc1, hf⟩ := kb_bind hf
    refine kb_cv (ws2 := (w_MO dA a (some (ba 0)) q1 g2 g3 g4 g5 (wa 0) g7 g8 g9 (na 0) g11 g12 g13 g14 g15 g16 g17 g18 r1.1 ++ (w_W dA wa y_w ++ (w_Coming dA na r1.2 ++ (w_Bus dA ba bu))))) (kb_rV (n := 0) (As := []) (rest := []) hx hb hml hown hK (c_X12_comes l D dA H.size a wa na ba q1 g2 g3 g4 g5 g7 g8 g9 g11 g12 g13 g14 g15 g16 g17 g18 z0 y_w z2 bu r1.1 r1.2 hc1) ⟨ww_8_88, ww_8_85, ww_8_87, ws_102, ww_1_12, rfl, by decide, by decide⟩ rfl rfl (by decide +kernel) ⟨Nat.le_of_ble_eq_true rfl, Nat.le_of_ble_eq_true rfl⟩ hP hD hS hA hE [0, 1, 2, 3, 4, 5, 6, 7, 8, 9, 10, 11, 12, 13, 14, 15, 16, 17, 18] rfl (by decide) 0 rfl rfl rfl hl.1 rfl (Nat.le_of_ble_eq_true rfl) dX12_ways_20 ⟨Nat.le_of_ble_eq_true rfl, Nat.le_of_ble_eq_true rfl⟩) hP hD hS hA [0, 1, 2, 3, 4, 5, 6, 7, 8, 9, 10, 11, 12, 13, 14, 15, 16, 17, 18] [] [0, 1, 2, 3, 4, 5, 6, 7, 8, 9, 10, 11, 12, 13, 14, 15, 16, 17, 18] rfl rfl (by decide) (by decide) rfl (by decide) (fun H locs hP hD hS => ?_)
    exact B_23 _ _ _ _ _ hf hP hD hS (lv_sub hl [0] rfl)
  have E0 : ∀ (H : Heap) (locs : List Loc), va_P D vwCl (w_MO dA a (some (ba 0)) q1 g2 g3 g4 g5 (wa 0) g7 g8 g9 (na 0) g11 g12 g13 g14 g15 g16 g17 g18 mo ++ (w_W dA wa y_w ++ (w_Coming dA na y_coming ++ (w_Bus dA ba bu)))) H → va_D A (w_MO dA a (some (ba 0)) q1 g2 g3 g4 g5 (wa 0) g7 g8 g9 (na 0) g11 g12 g13 g14 g15 g16 g17 g18 mo ++ (w_W dA wa y_w ++ (w_Coming dA na y_coming ++ (w_Bus dA ba bu)))) → va_S A s.heap H locs → W p l e ({ frames := 2, cells := 0, slots := 0, locals := 43 } : Room) s m ([.ref (a 0)] : List Value).toArray below meth c H locs 0 0 Q (F0 m 0 ls []) := by
    intro H locs hP hD hS
    rw [f_X12_ways] at hf
    refine lv_aload_n hx hb dX12_ways_0 rfl (lv_at hl 0 rfl) ?_
    refine lv_iconst (v := (0 : Int32)) hx hb dX12_ways_1 (by decide) ?_
    refine va_put (D := D) (ci := 12) (v := .int (0 : Int32)) (ty := .int) (C := RX12) (T := TX12) (N := 35) hx hb hts kb_inX12 tyX12 tyX12_ok nmX12 hown hK.1 hP hD hS 0 rfl rfl 0 (by decide) (hK.2.w ww_5_200 rfl _) (fun _ h9 => h9) rfl (by decide +kernel) rfl rfl (Nat.le_of_ble_eq_true rfl) dX12_ways_2 (fun H locs hP hD hS => ?_)
    have hP : va_P D vwCl (w_MO dA a (some (ba 0)) q1 g2 g3 g4 g5 (wa 0) g7 g8 g9 (na 0) g11 g12 g13 g14 g15 g16 g17 g18 (mo_set_thrown mo (0 : Int32)) ++ (w_W dA wa y_w ++ (w_Coming dA na y_coming ++ (w_Bus dA ba bu)))) H := hP
    have hD : va_D A (w_MO dA a (some (ba 0)) q1 g2 g3 g4 g5 (wa 0) g7 g8 g9 (na 0) g11 g12 g13 g14 g15 g16 g17 g18 (mo_set_thrown mo (0 : Int32)) ++ (w_W dA wa y_w ++ (w_Coming dA na y_coming ++ (w_Bus dA ba bu)))) := hD
    exact B_5 _ _ _ _ _ hf hP hD hS (lv_sub hl [0] rfl)
  exact E0 _ _ hP hD hS

noncomputable def f_X12_monday_b141 (y_w : WT) (y_looks : LooksT) (bu : BusT) (k57 : Int32 → Int32 → Int32 → Int32 → MOT → WhoT → LookT → Option (Int32 × MOT × WhoT × LookT)) (v3 : Int32) (v4 : Int32) (v5 : Int32) (v6 : Int32) (z0 : MOT) (z3 : WhoT) (z4 : LookT) : Option (Int32 × MOT × WhoT × LookT) := k57 v6 v3 v4 v5 z0 z3 z4
noncomputable def f_X12_monday_b129 (y_w : WT) (y_looks : LooksT) (bu : BusT) (k57 : Int32 → Int32 → Int32 → Int32 → MOT → WhoT → LookT → Option (Int32 × MOT × WhoT × LookT)) (v2 : Int32) (v3 : Int32) (v4 : Int32) (v5 : Int32) (v6 : Int32) (z0 : MOT) (z3 : WhoT) (z4 : LookT) : Option (Int32 × MOT × WhoT × LookT) := if kb_in? v2 8 then if kb_in? v3 20 then f_X12_monday_b141 y_w y_looks bu k57 v3 v4 v5 v6 z0 z3 (yLook_set_r z4 (upd (yLook_r z4) (v3).toNatClampNeg ((yLooks_r y_looks) (v2).toNatClampNeg))) else none else none
noncomputable def f_X12_monday_b57 (y_w : WT) (y_looks : LooksT) (bu : BusT) : Nat → Int32 → Int32 → Int32 → Int32 → MOT → WhoT → LookT → Option (Int32 × MOT × WhoT × LookT)
  | 0, _, _, _, _, _, _, _ => none
  | n + 1, v2, v3, v4, v5, z0, z3, z4 => (if v2 = (-2 : Int32) then (f_X12_done z0 v5).bind fun r9 => some (r9.1, r9.2, z3, z4) else (if (v4 &&& (((1 : Int32) <<< (v3 &&& 31)) ^^^ (-1 : Int32))) = 0 then (f_X12_done z0 (v5 + (1 : Int32))).bind fun r19 => some (r19.1, r19.2, z3, z4) else if kb_in? v2 8 then if kb_in? v2 8 then (f_X12_best z0 z3 z4 bu (v4 &&& (((1 : Int32) <<< (v3 &&& 31)) ^^^ (-1 : Int32))) ((bu_rule bu) (v2).toNatClampNeg) v2 ((yLooks_r y_looks) (v2).toNatClampNeg)).bind fun r13 => (f_X12_first r13).bind fun r14 => if kb_in? r14 20 then if kb_in? r14 20 then f_X12_monday_b129 y_w y_looks bu (f_X12_monday_b57 y_w y_looks bu n) v2 r14 (v4 &&& (((1 : Int32) <<< (v3 &&& 31)) ^^^ (-1 : Int32))) (v5 + (1 : Int32)) ((yWho_r z3) (r14).toNatClampNeg) z0 (yWho_set_r z3 (upd (yWho_r z3) (r14).toNatClampNeg v2)) z4 else none else none else none else none))
noncomputable def f_X12_monday_b50 (y_w : WT) (y_looks : LooksT) (bu : BusT) (v2 : Int32) (v3 : Int32) (v4 : Int32) (v5 : Int32) (z0 : MOT) (z3 : WhoT) (z4 : LookT) : Option (Int32 × MOT × WhoT × LookT) := if kb_in? v3 20 then f_X12_monday_b57 y_w y_looks bu 4096 v2 v3 v4 v5 z0 z3 (yLook_set_r z4 (upd (yLook_r z4) (v3).toNatClampNeg (5 : Int32))) else none
noncomputable def f_X12_monday_b24 (y_w : WT) (y_looks : LooksT) (bu : BusT) (v1 : Int32) (z0 : MOT) (z3 : WhoT) (z4 : LookT) : Option (Int32 × MOT × WhoT × LookT) := if kb_in? v1 20 then (f_X12_allSeats z0 bu).bind fun r5 => if kb_in? v1 20 then f_X12_monday_b50 y_w y_looks bu ((yWho_r z3) (v1).toNatClampNeg) v1 r5 (0 : Int32) z0 (yWho_set_r z3 (upd (yWho_r z3) (v1).toNatClampNeg (99 : Int32))) z4 else none else none
noncomputable def f_X12_monday_b5 (y_w : WT) (y_looks : LooksT) (bu : BusT) (v1 : Int32) (z0 : MOT) (z3 : WhoT) (z4 : LookT) : Option (Int32 × MOT × WhoT × LookT) := (f_X12_isSeat z0 bu v1).bind fun r1 => (if r1 = 0 then (f_X12_refused z0 (1 : Int32)).bind fun r20 => some (r20.1, r20.2, z3, z4) else (f_X12_sees z0 y_w y_looks z3 z4 bu (-1 : Int32)).bind fun r3 => f_X12_monday_b24 y_w y_looks bu v1 z0 r3.1 r3.2)
noncomputable def f_X12_monday (mo : MOT) (y_w : WT) (y_looks : LooksT) (y_who : WhoT) (y_look : LookT) (bu : BusT) (x0 : Int32) : Option (Int32 × MOT × WhoT × LookT) := f_X12_monday_b5 y_w y_looks bu x0 (mo_set_thrown mo (0 : Int32)) y_who y_look
set_option maxHeartbeats 4000000 in
set_option maxRecDepth 100000 in
theorem c_X12_monday (l : Launch) (D : va_G) (dA : Nat → ClassId) (sz : Nat) (a : Nat → Nat) (wa : Nat → Nat) (la : Nat → Nat) (ha : Nat → Nat) (ca : Nat → Nat) (ba : Nat → Nat) (q1 : Option Nat) (g2 : Nat) (g3 : Nat) (g4 : Nat) (g5 : Nat) (g10 : Nat) (g11 : Nat) (g12 : Nat) (g13 : Nat) (g14 : Nat) (g15 : Nat) (g16 : Nat) (g17 : Nat) (g18 : Nat) (mo : MOT) (y_w : WT) (y_looks : LooksT) (y_who : WhoT) (y_look : LookT) (bu : BusT) (x0 : Int32) (rv : Int32) (u0 : MOT) (u3 : WhoT) (u4 : LookT) (hf : f_X12_monday mo y_w y_looks y_who y_look bu x0 = some (rv, u0, u3, u4)) : kb_Mi l yX12_monday cX12_monday 7 (some .int) ({ frames := 5, cells := 0, slots := 0, locals := 122 } : Room) D dA [.ref (a 0), .int x0] sz (w_MO dA a (some (ba 0)) q1 g2 g3 g4 g5 (wa 0) (la 0) (ha 0) (ca 0) g10 g11 g12 g13 g14 g15 g16 g17 g18 mo ++ (w_W dA wa y_w ++ (w_Looks dA la y_looks ++ (w_Who dA ha y_who ++ (w_Look dA ca y_look ++ (w_Bus dA ba bu)))))) 0 0 rv (w_MO dA a (some (ba 0)) q1 g2 g3 g4 g5 (wa 0) (la 0) (ha 0) (ca 0) g10 g11 g12 g13 g14 g15 g16 g17 g18 u0 ++ (w_W dA wa y_w ++ (w_Looks dA la y_looks ++ (w_Who dA ha u3 ++ (w_Look dA ca u4 ++ (w_Bus dA ba bu)))))) := by
  refine Met.ofW (cc := cX12_monday) (maxL := 7) (ret := (some .int)) (by decide) rfl ?_
  intro p e s m args below meth c s₁ B hml hv
  obtain ⟨rfl, hsz, hP, hK, hD0, hE⟩ := hv
  have hx := B.exec
  have hb := B.bytes
  have hr := B.returns
  have hown : s.vm.findClass RX12 = some m.cls := findClass_of_methodNamed B.named
  have hlocks := B.notSynchronized
  have hts : ∀ w ∈ kb_gw, w.before ([.ref (a 0), .int x0] : List Value).toArray s = true := fun w hw => hK.2.1 w hw _
  subst hsz
  have hD := hD0.self (sz := s.heap.size)
  generalize hAe : va_A (w_MO dA a (some (ba 0)) q1 g2 g3 g4 g5 (wa 0) (la 0) (ha 0) (ca 0) g10 g11 g12 g13 g14 g15 g16 g17 g18 mo ++ (w_W dA wa y_w ++ (w_Looks dA la y_looks ++ (w_Who dA ha y_who ++ (w_Look dA ca y_look ++ (w_Bus dA ba bu)))))) s.heap.size = A at hD hE ⊢
  have hA : ∀ q : Nat, s.heap.size ≤ q → A q := fun q h => by rw [← hAe]; exact Or.inr h
  have hS : va_S A s.heap s.heap [] := va_S.rf
  have hl := lv_entry ([.ref (a 0), .int x0]) (n := 7) (Nat.le_of_ble_eq_true rfl)
  rw [lg_entry_eq]
  generalize (lg_sl ([.ref (a 0), .int x0]) ++ List.replicate (7 - (lg_sl ([.ref (a 0), .int x0])).length) Slot.unset).toArray = ls at hl ⊢
  have hl : lv_has ls 7 [(0, .ref (a 0)), (1, .int x0)] := hl
  generalize hQ : MQ below (va_Qi (fun r (_ : Unit) => r = rv) (kb_B D A (w_MO dA a (some (ba 0)) q1 g2 g3 g4 g5 (wa 0) (la 0) (ha 0) (ca 0) g10 g11 g12 g13 g14 g15 g16 g17 g18 u0 ++ (w_W dA wa y_w ++ (w_Looks dA la y_looks ++ (w_Who dA ha u3 ++ (w_Look dA ca u4 ++ (w_Bus dA ba bu))))))) A) ([.ref (a 0), .int x0] : List Value).toArray s 0 0 A = Q
  show W p l e ({ frames := 5, cells := 0, slots := 0, locals := 122 } : Room) s m ([.ref (a 0), .int x0] : List Value).toArray below meth c s.heap [] 0 0 Q (F0 m 0 ls [])
  have RET : ∀ (r2 : Int32) (w0 : MOT) (w3 : WhoT) (w4 : LookT) (H : Heap) (locs : List Loc) (ls : Array Slot) (pc : Nat), some (r2, w0, w3, w4) = some (rv, u0, u3, u4) → va_P D vwCl (w_MO dA a (some (ba 0)) q1 g2 g3 g4 g5 (wa 0) (la 0) (ha 0) (ca 0) g10 g11 g12 g13 g14 g15 g16 g17 g18 w0 ++ (w_W dA wa y_w ++ (w_Looks dA la y_looks ++ (w_Who dA ha w3 ++ (w_Look dA ca w4 ++ (w_Bus dA ba bu)))))) H → va_D A (w_MO dA a (some (ba 0)) q1 g2 g3 g4 g5 (wa 0) (la 0) (ha 0) (ca 0) g10 g11 g12 g13 g14 g15 g16 g17 g18 w0 ++ (w_W dA wa y_w ++ (w_Looks dA la y_looks ++ (w_Who dA ha w3 ++ (w_Look dA ca w4 ++ (w_Bus dA ba bu)))))) → va_S A s.heap H locs → decode cX12_monday pc = .ok (.ireturn, 1) → W p l e ({ frames := 5, cells := 0, slots := 0, locals := 122 } : Room) s m ([.ref (a 0), .int x0] : List Value).toArray below meth c H locs 0 0 Q (F0 m pc ls [.int r2]) := by
    intro r2 w0 w3 w4 H locs ls pc hq hP hD hS hd
    cases hq
    rw [← hQ]
    exact W.iret hx hb hr (fun t ht hW => ⟨⟨_, (), rfl, rfl, by rw [ht]; exact hP, hD⟩, hS.F ht⟩) hS.2.2 hd
  have B_141 : ∀ (k57 : Int32 → Int32 → Int32 → Int32 → MOT → WhoT → LookT → Option (Int32 × MOT × WhoT × LookT)) (hk57 : ∀ (v2 : Int32) (v3 : Int32) (v4 : Int32) (v5 : Int32) (z0 : MOT) (z3 : WhoT) (z4 : LookT) (H : Heap) (locs : List Loc) (ls : Array Slot), k57 v2 v3 v4 v5 z0 z3 z4 = some (rv, u0, u3, u4) → va_P D vwCl (w_MO dA a (some (ba 0)) q1 g2 g3 g4 g5 (wa 0) (la 0) (ha 0) (ca 0) g10 g11 g12 g13 g14 g15 g16 g17 g18 z0 ++ (w_W dA wa y_w ++ (w_Looks dA la y_looks ++ (w_Who dA ha z3 ++ (w_Look dA ca z4 ++ (w_Bus dA ba bu)))))) H → va_D A (w_MO dA a (some (ba 0)) q1 g2 g3 g4 g5 (wa 0) (la 0) (ha 0) (ca 0) g10 g11 g12 g13 g14 g15 g16 g17 g18 z0 ++ (w_W dA wa y_w ++ (w_Looks dA la y_looks ++ (w_Who dA ha z3 ++ (w_Look dA ca z4 ++ (w_Bus dA ba bu)))))) → va_S A s.heap H locs → lv_has ls 7 [(0, .ref (a 0)), (2, .int v2), (3, .int v3), (4, .int v4), (5, .int v5)] → W p l e ({ frames := 5, cells := 0, slots := 0, locals := 122 } : Room) s m ([.ref (a 0), .int x0] : List Value).toArray below meth c H locs 0 0 Q (F0 m 57 ls [])) (v3 : Int32) (v4 : Int32) (v5 : Int32) (v6 : Int32) (z0 : MOT) (z3 : WhoT) (z4 : LookT) (H : Heap) (locs : List Loc) (ls : Array Slot), f_X12_monday_b141 y_w y_looks bu k57 v3 v4 v5 v6 z0 z3 z4 = some (rv, u0, u3, u4) → va_P D vwCl (w_MO dA a (some (ba 0)) q1 g2 g3 g4 g5 (wa 0) (la 0) (ha 0) (ca 0) g10 g11 g12 g13 g14 g15 g16 g17 g18 z0 ++ (w_W dA wa y_w ++ (w_Looks dA la y_looks ++ (w_Who dA ha z3 ++ (w_Look dA ca z4 ++ (w_Bus dA ba bu)))))) H → va_D A (w_MO dA a (some (ba 0)) q1 g2 g3 g4 g5 (wa 0) (la 0) (ha 0) (ca 0) g10 g11 g12 g13 g14 g15 g16 g17 g18 z0 ++ (w_W dA wa y_w ++ (w_Looks dA la y_looks ++ (w_Who dA ha z3 ++ (w_Look dA ca z4 ++ (w_Bus dA ba bu)))))) → va_S A s.heap H locs → lv_has ls 7 [(0, .ref (a 0)), (3, .int v3), (4, .int v4), (5, .int v5), (6, .int v6)] → W p l e ({ frames := 5, cells := 0, slots := 0, locals := 122 } : Room) s m ([.ref (a 0), .int x0] : List Value).toArray below meth c H locs 0 0 Q (F0 m 141 ls []) := by
    intro k57 hk57 v3 v4 v5 v6 z0 z3 z4 H locs ls hf hP hD hS hl
    rw [f_X12_monday_b141] at hf
    refine lv_iload hx hb dX12_monday_141 (lv_at hl 4 rfl) ?_
    refine lv_istore_n (lv' := [(2, .int v6), (0, .ref (a 0)), (3, .int v3), (4, .int v4), (5, .int v5), (6, .int v6)]) hx hb dX12_monday_143 rfl hl (by decide) rfl (fun ls hl => ?_)
    refine lv_goto (tgt := 57) hx hb dX12_monday_144 (by decide) ?_
    exact hk57 _ _ _ _ _ _ _ _ _ _ hf hP hD hS (lv_sub hl [1, 0, 2, 3, 4] rfl)
  have B_129 : ∀ (k57 : Int32 → Int32 → Int32 → Int32 → MOT → WhoT → LookT → Option (Int32 × MOT × WhoT × LookT)) (hk57 : ∀ (v2 : Int32) (v3 : Int32) (v4 : Int32) (v5 : Int32) (z0 : MOT) (z3 : WhoT) (z4 : LookT) (H : Heap) (locs : List Loc) (ls : Array Slot), k57 v2 v3 v4 v5 z0 z3 z4 = some (rv, u0, u3, u4) → va_P D vwCl (w_MO dA a (some (ba 0)) q1 g2 g3 g4 g5 (wa 0) (la 0) (ha 0) (ca 0) g10 g11 g12 g13 g14 g15 g16 g17 g18 z0 ++ (w_W dA wa y_w ++ (w_Looks dA la y_looks ++ (w_Who dA ha z3 ++ (w_Look dA ca z4 ++ (w_Bus dA ba bu)))))) H → va_D A (w_MO dA a (some (ba 0)) q1 g2 g3 g4 g5 (wa 0) (la 0) (ha 0) (ca 0) g10 g11 g12 g13 g14 g15 g16 g17 g18 z0 ++ (w_W dA wa y_w ++ (w_Looks dA la y_looks ++ (w_Who dA ha z3 ++ (w_Look dA ca z4 ++ (w_Bus dA ba bu)))))) → va_S A s.heap H locs → lv_has ls 7 [(0, .ref (a 0)), (2, .int v2), (3, .int v3), (4, .int v4), (5, .int v5)] → W p l e ({ frames := 5, cells := 0, slots := 0, locals := 122 } : Room) s m ([.ref (a 0), .int x0] : List Value).toArray below meth c H locs 0 0 Q (F0 m 57 ls [])) (v2 : Int32) (v3 : Int32) (v4 : Int32) (v5 : Int32) (v6 : Int32) (z0 : MOT) (z3 : WhoT) (z4 : LookT) (H : Heap) (locs : List Loc) (ls : Array Slot), f_X12_monday_b129 y_w y_looks bu k57 v2 v3 v4 v5 v6 z0 z3 z4 = some (rv, u0, u3, u4) → va_P D vwCl (w_MO dA a (some (ba 0)) q1 g2 g3 g4 g5 (wa 0) (la 0) (ha 0) (ca 0) g10 g11 g12 g13 g14 g15 g16 g17 g18 z0 ++ (w_W dA wa y_w ++ (w_Looks dA la y_looks ++ (w_Who dA ha z3 ++ (w_Look dA ca z4 ++ (w_Bus dA ba bu)))))) H → va_D A (w_MO dA a (some (ba 0)) q1 g2 g3 g4 g5 (wa 0) (la 0) (ha 0) (ca 0) g10 g11 g12 g13 g14 g15 g16 g17 g18 z0 ++ (w_W dA wa y_w ++ (w_Looks dA la y_looks ++ (w_Who dA ha z3 ++ (w_Look dA ca z4 ++ (w_Bus dA ba bu)))))) → va_S A s.heap H locs → lv_has ls 7 [(0, .ref (a 0)), (2, .int v2), (3, .int v3), (4, .int v4), (5, .int v5), (6, .int v6)] → W p l e ({ frames := 5, cells := 0, slots := 0, locals := 122 } : Room) s m ([.ref (a 0), .int x0] : List Value).toArray below meth c H locs 0 0 Q (F0 m 129 ls []) := by
    intro k57 hk57 v2 v3 v4 v5 v6 z0 z3 z4 H locs ls hf hP hD hS hl
    rw [f_X12_monday_b129] at hf
    refine lv_aload_n hx hb dX12_monday_129 rfl (lv_at hl 0 rfl) ?_
    refine va_get (D := D) (ci := 12) (v := .ref (ca 0)) (C := RX12) (T := TX12) (N := 35) hx hb hts kb_inX12 hown hK.1 hP 0 rfl rfl 23 (by decide) (hK.2.w ww_5_223 rfl _) (fun _ h9 => h9) rfl dX12_monday_130 ?_
    refine lv_iload_n hx hb dX12_monday_133 rfl (lv_at hl 2 rfl) ?_
    refine lv_aload_n hx hb dX12_monday_134 rfl (lv_at hl 0 rfl) ?_
    refine va_get (D := D) (ci := 12) (v := .ref (la 0)) (C := RX12) (T := TX12) (N := 35) hx hb hts kb_inX12 hown hK.1 hP 0 rfl rfl 20 (by decide) (hK.2.w ww_5_220 rfl _) (fun _ h9 => h9) rfl dX12_monday_135 ?_
    refine lv_iload_n hx hb dX12_monday_138 rfl (lv_at hl 1 rfl) ?_
    obtain ⟨h_17, hf⟩ := kb_if hf
    refine va_iald (D := D) hx hb hK.1 hP 2 0 rfl rfl h_17 dX12_monday_139 ?_
    obtain ⟨h_18, hf⟩ := kb_if hf
    refine va_iast (D := D) hx hb hK.1 hP hD hS 4 0 rfl rfl h_18 dX12_monday_140 (fun H locs hP hD hS => ?_)
    have hP : va_P D vwCl (w_MO dA a (some (ba 0)) q1 g2 g3 g4 g5 (wa 0) (la 0) (ha 0) (ca 0) g10 g11 g12 g13 g14 g15 g16 g17 g18 z0 ++ (w_W dA wa y_w ++ (w_Looks dA la y_looks ++ (w_Who dA ha z3 ++ (w_Look dA ca (yLook_set_r z4 (upd (yLook_r z4) (v3).toNatClampNeg ((yLooks_r y_looks) (v2).toNatClampNeg))) ++ (w_Bus dA ba bu)))))) H := hP
    have hD : va_D A (w_MO dA a (some (ba 0)) q1 g2 g3 g4 g5 (wa 0) (la 0) (ha 0) (ca 0) g10 g11 g12 g13 g14 g15 g16 g17 g18 z0 ++ (w_W dA wa y_w ++ (w_Looks dA la y_looks ++ (w_Who dA ha z3 ++ (w_Look dA ca (yLook_set_r z4 (upd (yLook_r z4) (v3).toNatClampNeg ((yLooks_r y_looks) (v2).toNatClampNeg))) ++ (w_Bus dA ba bu)))))) := hD
    exact B_141 k57 hk57 _ _ _ _ _ _ _ _ _ _ hf hP hD hS (lv_sub hl [0, 2, 3, 4, 5] rfl)
  have B_57 : ∀ (n : Nat) (v2 : Int32) (v3 : Int32) (v4 : Int32) (v5 : Int32) (z0 : MOT) (z3 : WhoT) (z4 : LookT) (H : Heap) (locs : List Loc) (ls : Array Slot), f_X12_monday_b57 y_w y_looks bu n v2 v3 v4 v5 z0 z3 z4 = some (rv, u0, u3, u4) → va_P D vwCl (w_MO dA a (some (ba 0)) q1 g2 g3 g4 g5 (wa 0) (la 0) (ha 0) (ca 0) g10 g11 g12 g13 g14 g15 g16 g17 g18 z0 ++ (w_W dA wa y_w ++ (w_Looks dA la y_looks ++ (w_Who dA ha z3 ++ (w_Look dA ca z4 ++ (w_Bus dA ba bu)))))) H → va_D A (w_MO dA a (some (ba 0)) q1 g2 g3 g4 g5 (wa 0) (la 0) (ha 0) (ca 0) g10 g11 g12 g13 g14 g15 g16 g17 g18 z0 ++ (w_W dA wa y_w ++ (w_Looks dA la y_looks ++ (w_Who dA ha z3 ++ (w_Look dA ca z4 ++ (w_Bus dA ba bu)))))) → va_S A s.heap H locs → lv_has ls 7 [(0, .ref (a 0)), (2, .int v2), (3, .int v3), (4, .int v4), (5, .int v5)] → W p l e ({ frames := 5, cells := 0, slots := 0, locals := 122 } : Room) s m ([.ref (a 0), .int x0] : List Value).toArray below meth c H locs 0 0 Q (F0 m 57 ls []) := by
    intro n
    induction n with
    | zero =>
      intro v2 v3 v4 v5 z0 z3 z4 H locs ls hf
      exact absurd hf (by simp [f_X12_monday_b57])
    | succ n ih =>
      intro v2 v3 v4 v5 z0 z3 z4 H locs ls hf hP hD hS hl
      rw [f_X12_monday_b57] at hf
      refine lv_iload_n hx hb dX12_monday_57 rfl (lv_at hl 1 rfl) ?_
      refine lv_bipush (v := (-2 : Int32)) hx hb dX12_monday_58 (by decide) ?_
      refine lv_icmp_eq (tgt := 147) hx hb dX12_monday_60 (by decide) (fun c_8 => ?_) (fun c_8 => ?_)
      · rw [if_pos c_8] at hf
        refine lv_aload_n hx hb dX12_monday_147 rfl (lv_at hl 0 rfl) ?_
        refine lv_iload hx hb dX12_monday_148 (lv_at hl 4 rfl) ?_
        obtain ⟨r9, hc9, hf⟩ := kb_bind hf
        refine kb_ci (ws2 := (w_MO dA a (some (ba 0)) q1 g2 g3 g4 g5 (wa 0) (la 0) (ha 0) (ca 0) g10 g11 g12 g13 g14 g15 g16 g17 g18 r9.2 ++ (w_W dA wa y_w ++ (w_Looks dA la y_looks ++ (w_Who dA ha z3 ++ (w_Look dA ca z4 ++ (w_Bus dA ba bu))))))) (kb_rV (n := 1) (As := [.int v5]) (rest := []) hx hb hml hown hK (c_X12_done l D dA H.size a (some (ba 0)) q1 g2 g3 g4 g5 (wa 0) (la 0) (ha 0) (ca 0) g10 g11 g12 g13 g14 g15 g16 g17 g18 z0 v5 r9.1 r9.2 hc9) ⟨ww_7_100, ww_7_97, ww_7_99, ws_71, ww_1_12, rfl, by decide, by decide⟩ rfl rfl (by decide +kernel) ⟨Nat.le_of_ble_eq_true rfl, Nat.le_of_ble_eq_true rfl⟩ hP hD hS hA hE [0] rfl (by decide) 0 rfl rfl rfl hl.1 rfl (Nat.le_of_ble_eq_true rfl) dX12_monday_150 ⟨Nat.le_of_ble_eq_true rfl, Nat.le_of_ble_eq_true rfl⟩) hP hD hS hA [0] [1, 2, 3, 4, 5, 6, 7, 8, 9, 10, 11, 12, 13, 14, 15, 16, 17, 18, 19, 20] [20, 0, 1, 2, 3, 4, 5, 6, 7, 8, 9, 10, 11, 12, 13, 14, 15, 16, 17, 18, 19] rfl rfl (by decide) (by decide) rfl (by decide) (fun H locs hP hD hS => ?_)
        exact RET _ _ _ _ H _ ls 153 hf hP hD hS dX12_monday_153
      · rw [if_neg c_8] at hf
        refine lv_iinc (v := (v5 + (1 : Int32))) (lv' := [(5, .int (v5 + (1 : Int32))), (0, .ref (a 0)), (2, .int v2), (3, .int v3), (4, .int v4)]) hx hb dX12_monday_63 hl (k := 4) rfl (by rfl) (by decide) rfl (fun ls hl => ?_)
        refine lv_iload hx hb dX12_monday_66 (lv_at hl 4 rfl) ?_
        refine lv_iconst (v := (1 : Int32)) hx hb dX12_monday_68 (by decide) ?_
        refine lv_iload_n hx hb dX12_monday_69 rfl (lv_at hl 3 rfl) ?_
        refine lv_ishl hx hb dX12_monday_70 ?_
        refine lv_iconst (v := (-1 : Int32)) hx hb dX12_monday_71 (by decide) ?_
        refine lv_ixor hx hb dX12_monday_72 ?_
        refine lv_iand hx hb dX12_monday_73 ?_
        refine lv_istore (lv' := [(4, .int (v4 &&& (((1 : Int32) <<< (v3 &&& 31)) ^^^ (-1 : Int32)))), (5, .int (v5 + (1 : Int32))), (0, .ref (a 0)), (2, .int v2), (3, .int v3)]) hx hb dX12_monday_74 hl (by decide) rfl (fun ls hl => ?_)
        refine lv_iload hx hb dX12_monday_76 (lv_at hl 0 rfl) ?_
        refine lv_if_ne (tgt := 88) hx hb dX12_monday_78 (by decide) (fun c_10 => ?_) (fun c_10 => ?_)
        · rw [if_neg c_10] at hf
          refine lv_aload_n hx hb dX12_monday_88 rfl (lv_at hl 2 rfl) ?_
          refine lv_iload hx hb dX12_monday_89 (lv_at hl 0 rfl) ?_
          refine lv_aload_n hx hb dX12_monday_91 rfl (lv_at hl 2 rfl) ?_
          refine va_get (D := D) (ci := 12) (v := .ref (ba 0)) (C := RX12) (T := TX12) (N := 35) hx hb hts kb_inX12 hown hK.1 hP 0 rfl rfl 3 (by decide) (hK.2.w ww_5_203 rfl _) (fun _ h9 => h9) rfl dX12_monday_92 ?_
          refine va_getN (D := D) (ci := 11) (v := .ref (ba 5)) (C := RX11) (T := TX11) (N := 26) hx hb hts kb_inX11 hown hK.1 hP 5 rfl rfl 15 (by decide) (hK.2.nb ww_6_111 rfl rfl _) (fun _ h9 => h9) rfl dX12_monday_95 ?_
          refine lv_iload_n hx hb dX12_monday_98 rfl (lv_at hl 3 rfl) ?_
          obtain ⟨h_11, hf⟩ := kb_if hf
          refine va_iald (D := D) hx hb hK.1 hP 10 0 rfl rfl h_11 dX12_monday_99 ?_
          refine lv_iload_n hx hb dX12_monday_100 rfl (lv_at hl 3 rfl) ?_
          refine lv_aload_n hx hb dX12_monday_101 rfl (lv_at hl 2 rfl) ?_
          refine va_get (D := D) (ci := 12) (v := .ref (la 0)) (C := RX12) (T := TX12) (N := 35) hx hb hts kb_inX12 hown hK.1 hP 0 rfl rfl 20 (by decide) (hK.2.w ww_5_220 rfl _) (fun _ h9 => h9) rfl dX12_monday_102 ?_
          refine lv_iload_n hx hb dX12_monday_105 rfl (lv_at hl 3 rfl) ?_
          obtain ⟨h_12, hf⟩ := kb_if hf
          refine va_iald (D := D) hx hb hK.1 hP 2 0 rfl rfl h_12 dX12_monday_106 ?_
          obtain ⟨r13, hc13, hf⟩ := kb_bind hf
          refine kb_ci (ws2 := (w_MO dA a (some (ba 0)) q1 g2 g3 g4 g5 (wa 0) (la 0) (ha 0) (ca 0) g10 g11 g12 g13 g14 g15 g16 g17 g18 z0 ++ (w_W dA wa y_w ++ (w_Looks dA la y_looks ++ (w_Who dA ha z3 ++ (w_Look dA ca z4 ++ (w_Bus dA ba bu))))))) (kb_rV (n := 4) (As := [.int (v4 &&& (((1 : Int32) <<< (v3 &&& 31)) ^^^ (-1 : Int32))), .int ((bu_rule bu) (v2).toNatClampNeg), .int v2, .int ((yLooks_r y_looks) (v2).toNatClampNeg)]) (rest := []) hx hb hml hown hK (c_X12_best l D dA H.size a ha ca ba q1 g2 g3 g4 g5 (wa 0) (la 0) g10 g11 g12 g13 g14 g15 g16 g17 g18 z0 z3 z4 bu (v4 &&& (((1 : Int32) <<< (v3 &&& 31)) ^^^ (-1 : Int32))) ((bu_rule bu) (v2).toNatClampNeg) v2 ((yLooks_r y_looks) (v2).toNatClampNeg) r13 hc13) ⟨ww_7_210, ww_7_207, ww_7_209, ws_91, ww_1_12, rfl, by decide, by decide⟩ rfl rfl (by decide +kernel) ⟨Nat.le_of_ble_eq_true rfl, Nat.le_of_ble_eq_true rfl⟩ hP hD hS hA hE [0, 3, 4, 5, 6, 7, 8, 9, 10, 11, 12, 13, 14, 15, 16, 17, 18, 19, 20] rfl (by decide) 0 rfl rfl rfl hl.1 rfl (Nat.le_of_ble_eq_true rfl) dX12_monday_107 ⟨Nat.le_of_ble_eq_true rfl, Nat.le_of_ble_eq_true rfl⟩) hP hD hS hA [0, 3, 4, 5, 6, 7, 8, 9, 10, 11, 12, 13, 14, 15, 16, 17, 18, 19, 20] [1, 2] [2, 0, 1, 3, 4, 5, 6, 7, 8, 9, 10, 11, 12, 13, 14, 15, 16, 17, 18, 19, 20] rfl rfl (by decide) (by decide) rfl (by decide) (fun H locs hP hD hS => ?_)
          obtain ⟨r14, hc14, hf⟩ := kb_bind hf
          refine kb_ci (ws2 := (w_MO dA a (some (ba 0)) q1 g2 g3 g4 g5 (wa 0) (la 0) (ha 0) (ca 0) g10 g11 g12 g13 g14 g15 g16 g17 g18 z0 ++ (w_W dA wa y_w ++ (w_Looks dA la y_looks ++ (w_Who dA ha z3 ++ (w_Look dA ca z4 ++ (w_Bus dA ba bu))))))) (kb_rS (n := 1) (As := [.int r13]) (rest := []) hx hb hml hown hK (c_X12_first l D dA H.size r13 r14 hc14) ⟨ww_7_221, ww_7_219, ww_7_220, ww_1_12, by decide, by decide⟩ rfl rfl (by decide +kernel) ⟨Nat.le_of_ble_eq_true rfl, Nat.le_of_ble_eq_true rfl⟩ hP hD hS hA hE [] rfl (by decide) rfl hl.1 rfl (Nat.le_of_ble_eq_true rfl) dX12_monday_110 ⟨Nat.le_of_ble_eq_true rfl, Nat.le_of_ble_eq_true rfl⟩) hP hD hS hA [] [0, 1, 2, 3, 4, 5, 6, 7, 8, 9, 10, 11, 12, 13, 14, 15, 16, 17, 18, 19, 20] [0, 1, 2, 3, 4, 5, 6, 7, 8, 9, 10, 11, 12, 13, 14, 15, 16, 17, 18, 19, 20] rfl rfl (by decide) (by decide) rfl (by decide) (fun H locs hP hD hS => ?_)
          refine lv_istore_n (lv' := [(3, .int r14), (4, .int (v4 &&& (((1 : Int32) <<< (v3 &&& 31)) ^^^ (-1 : Int32)))), (5, .int (v5 + (1 : Int32))), (0, .ref (a 0)), (2, .int v2)]) hx hb dX12_monday_113 rfl hl (by decide) rfl (fun ls hl => ?_)
          refine lv_aload_n hx hb dX12_monday_114 rfl (lv_at hl 3 rfl) ?_
          refine va_get (D := D) (ci := 12) (v := .ref (ha 0)) (C := RX12) (T := TX12) (N := 35) hx hb hts kb_inX12 hown hK.1 hP 0 rfl rfl 22 (by decide) (hK.2.w ww_5_222 rfl _) (fun _ h9 => h9) rfl dX12_monday_115 ?_
          refine lv_iload_n hx hb dX12_monday_118 rfl (lv_at hl 0 rfl) ?_
          obtain ⟨h_15, hf⟩ := kb_if hf
          refine va_iald (D := D) hx hb hK.1 hP 3 0 rfl rfl h_15 dX12_monday_119 ?_
          refine lv_istore (lv' := [(6, .int ((yWho_r z3) (r14).toNatClampNeg)), (3, .int r14), (4, .int (v4 &&& (((1 : Int32) <<< (v3 &&& 31)) ^^^ (-1 : Int32)))), (5, .int (v5 + (1 : Int32))), (0, .ref (a 0)), (2, .int v2)]) hx hb dX12_monday_120 hl (by decide) rfl (fun ls hl => ?_)
          refine lv_aload_n hx hb dX12_monday_122 rfl (lv_at hl 4 rfl) ?_
          refine va_get (D := D) (ci := 12) (v := .ref (ha 0)) (C := RX12) (T := TX12) (N := 35) hx hb hts kb_inX12 hown hK.1 hP 0 rfl rfl 22 (by decide) (hK.2.w ww_5_222 rfl _) (fun _ h9 => h9) rfl dX12_monday_123 ?_
          refine lv_iload_n hx hb dX12_monday_126 rfl (lv_at hl 1 rfl) ?_
          refine lv_iload_n hx hb dX12_monday_127 rfl (lv_at hl 5 rfl) ?_
          obtain ⟨h_16, hf⟩ := kb_if hf
          refine va_iast (D := D) hx hb hK.1 hP hD hS 3 0 rfl rfl h_16 dX12_monday_128 (fun H locs hP hD hS => ?_)
          have hP : va_P D vwCl (w_MO dA a (some (ba 0)) q1 g2 g3 g4 g5 (wa 0) (la 0) (ha 0) (ca 0) g10 g11 g12 g13 g14 g15 g16 g17 g18 z0 ++ (w_W dA wa y_w ++ (w_Looks dA la y_looks ++ (w_Who dA ha (yWho_set_r z3 (upd (yWho_r z3) (r14).toNatClampNeg v2)) ++ (w_Look dA ca z4 ++ (w_Bus dA ba bu)))))) H := hP
          have hD : va_D A (w_MO dA a (some (ba 0)) q1 g2 g3 g4 g5 (wa 0) (la 0) (ha 0) (ca 0) g10 g11 g12 g13 g14 g15 g16 g17 g18 z0 ++ (w_W dA wa y_w ++ (w_Looks dA la y_looks ++ (w_Who dA ha (yWho_set_r z3 (upd (yWho_r z3) (r14).toNatClampNeg v2)) ++ (w_Look dA ca z4 ++ (w_Bus dA ba bu)))))) := hD
          exact B_129 (f_X12_monday_b57 y_w y_looks bu n) ih _ _ _ _ _ _ _ _ _ _ _ hf hP hD hS (lv_sub hl [4, 5, 1, 2, 3, 0] rfl)
        · rw [if_pos c_10] at hf
          refine lv_aload_n hx hb dX12_monday_81 rfl (lv_at hl 2 rfl) ?_
          refine lv_iload hx hb dX12_monday_82 (lv_at hl 1 rfl) ?_
          obtain ⟨r19, hc19, hf⟩ := kb_bind hf
          refine kb_ci (ws2 := (w_MO dA a (some (ba 0)) q1 g2 g3 g4 g5 (wa 0) (la 0) (ha 0) (ca 0) g10 g11 g12 g13 g14 g15 g16 g17 g18 r19.2 ++ (w_W dA wa y_w ++ (w_Looks dA la y_looks ++ (w_Who dA ha z3 ++ (w_Look dA ca z4 ++ (w_Bus dA ba bu))))))) (kb_rV (n := 1) (As := [.int (v5 + (1 : Int32))]) (rest := []) hx hb hml hown hK (c_X12_done l D dA H.size a (some (ba 0)) q1 g2 g3 g4 g5 (wa 0) (la 0) (ha 0) (ca 0) g10 g11 g12 g13 g14 g15 g16 g17 g18 z0 (v5 + (1 : Int32)) r19.1 r19.2 hc19) ⟨ww_7_100, ww_7_97, ww_7_99, ws_71, ww_1_12, rfl, by decide, by decide⟩ rfl rfl (by decide +kernel) ⟨Nat.le_of_ble_eq_true rfl, Nat.le_of_ble_eq_true rfl⟩ hP hD hS hA hE [0] rfl (by decide) 0 rfl rfl rfl hl.1 rfl (Nat.le_of_ble_eq_true rfl) dX12_monday_84 ⟨Nat.le_of_ble_eq_true rfl, Nat.le_of_ble_eq_true rfl⟩) hP hD hS hA [0] [1, 2, 3, 4, 5, 6, 7, 8, 9, 10, 11, 12, 13, 14, 15, 16, 17, 18, 19, 20] [20, 0, 1, 2, 3, 4, 5, 6, 7, 8, 9, 10, 11, 12, 13, 14, 15, 16, 17, 18, 19] rfl rfl (by decide) (by decide) rfl (by decide) (fun H locs hP hD hS => ?_)
          exact RET _ _ _ _ H _ ls 87 hf hP hD hS dX12_monday_87
  have B_50 : ∀ (v2 : Int32) (v3 : Int32) (v4 : Int32) (v5 : Int32) (z0 : MOT) (z3 : WhoT) (z4 : LookT) (H : Heap) (locs : List Loc) (ls : Array Slot), f_X12_monday_b50 y_w y_looks bu v2 v3 v4 v5 z0 z3 z4 = some (rv, u0, u3, u4) → va_P D vwCl (w_MO dA a (some (ba 0)) q1 g2 g3 g4 g5 (wa 0) (la 0) (ha 0) (ca 0) g10 g11 g12 g13 g14 g15 g16 g17 g18 z0 ++ (w_W dA wa y_w ++ (w_Looks dA la y_looks ++ (w_Who dA ha z3 ++ (w_Look dA ca z4 ++ (w_Bus dA ba bu)))))) H → va_D A (w_MO dA a (some (ba 0)) q1 g2 g3 g4 g5 (wa 0) (la 0) (ha 0) (ca 0) g10 g11 g12 g13 g14 g15 g16 g17 g18 z0 ++ (w_W dA wa y_w ++ (w_Looks dA la y_looks ++ (w_Who dA ha z3 ++ (w_Look dA ca z4 ++ (w_Bus dA ba bu)))))) → va_S A s.heap H locs → lv_has ls 7 [(0, .ref (a 0)), (2, .int v2), (3, .int v3), (4, .int v4), (5, .int v5)] → W p l e ({ frames := 5, cells := 0, slots := 0, locals := 122 } : Room) s m ([.ref (a 0), .int x0] : List Value).toArray below meth c H locs 0 0 Q (F0 m 50 ls []) := by
    intro v2 v3 v4 v5 z0 z3 z4 H locs ls hf hP hD hS hl
    rw [f_X12_monday_b50] at hf
    refine lv_aload_n hx hb dX12_monday_50 rfl (lv_at hl 0 rfl) ?_
    refine va_get (D := D) (ci := 12) (v := .ref (ca 0)) (C := RX12) (T := TX12) (N := 35) hx hb hts kb_inX12 hown hK.1 hP 0 rfl rfl 23 (by decide) (hK.2.w ww_5_223 rfl _) (fun _ h9 => h9) rfl dX12_monday_51 ?_
    refine lv_iload_n hx hb dX12_monday_54 rfl (lv_at hl 2 rfl) ?_
    refine lv_iconst (v := (5 : Int32)) hx hb dX12_monday_55 (by decide) ?_
    obtain ⟨h_7, hf⟩ := kb_if hf
    refine va_iast (D := D) hx hb hK.1 hP hD hS 4 0 rfl rfl h_7 dX12_monday_56 (fun H locs hP hD hS => ?_)
    have hP : va_P D vwCl (w_MO dA a (some (ba 0)) q1 g2 g3 g4 g5 (wa 0) (la 0) (ha 0) (ca 0) g10 g11 g12 g13 g14 g15 g16 g17 g18 z0 ++ (w_W dA wa y_w ++ (w_Looks dA la y_looks ++ (w_Who dA ha z3 ++ (w_Look dA ca (yLook_set_r z4 (upd (yLook_r z4) (v3).toNatClampNeg (5 : Int32))) ++ (w_Bus dA ba bu)))))) H := hP
    have hD : va_D A (w_MO dA a (some (ba 0)) q1 g2 g3 g4 g5 (wa 0) (la 0) (ha 0) (ca 0) g10 g11 g12 g13 g14 g15 g16 g17 g18 z0 ++ (w_W dA wa y_w ++ (w_Looks dA la y_looks ++ (w_Who dA ha z3 ++ (w_Look dA ca (yLook_set_r z4 (upd (yLook_r z4) (v3).toNatClampNeg (5 : Int32))) ++ (w_Bus dA ba bu)))))) := hD
    exact B_57 4096 _ _ _ _ _ _ _ _ _ _ hf hP hD hS (lv_sub hl [0, 1, 2, 3, 4] rfl)
  have B_24 : ∀ (v1 : Int32) (z0 : MOT) (z3 : WhoT) (z4 : LookT) (H : Heap) (locs : List Loc) (ls : Array Slot), f_X12_monday_b24 y_w y_looks bu v1 z0 z3 z4 = some (rv, u0, u3, u4) → va_P D vwCl (w_MO dA a (some (ba 0)) q1 g2 g3 g4 g5 (wa 0) (la 0) (ha 0) (ca 0) g10 g11 g12 g13 g14 g15 g16 g17 g18 z0 ++ (w_W dA wa y_w ++ (w_Looks dA la y_looks ++ (w_Who dA ha z3 ++ (w_Look dA ca z4 ++ (w_Bus dA ba bu)))))) H → va_D A (w_MO dA a (some (ba 0)) q1 g2 g3 g4 g5 (wa 0) (la 0) (ha 0) (ca 0) g10 g11 g12 g13 g14 g15 g16 g17 g18 z0 ++ (w_W dA wa y_w ++ (w_Looks dA la y_looks ++ (w_Who dA ha z3 ++ (w_Look dA ca z4 ++ (w_Bus dA ba bu)))))) → va_S A s.heap H locs → lv_has ls 7 [(0, .ref (a 0)), (1, .int v1)] → W p l e ({ frames := 5, cells := 0, slots := 0, locals := 122 } : Room) s m ([.ref (a 0), .int x0] : List Value).toArray below meth c H locs 0 0 Q (F0 m 24 ls []) := by
    intro v1 z0 z3 z4 H locs ls hf hP hD hS hl
    rw [f_X12_monday_b24] at hf
    refine lv_aload_n hx hb dX12_monday_24 rfl (lv_at hl 0 rfl) ?_
    refine va_get (D := D) (ci := 12) (v := .ref (ha 0)) (C := RX12) (T := TX12) (N := 35) hx hb hts kb_inX12 hown hK.1 hP 0 rfl rfl 22 (by decide) (hK.2.w ww_5_222 rfl _) (fun _ h9 => h9) rfl dX12_monday_25 ?_
    refine lv_iload_n hx hb dX12_monday_28 rfl (lv_at hl 1 rfl) ?_
    obtain ⟨h_4, hf⟩ := kb_if hf
    refine va_iald (D := D) hx hb hK.1 hP 3 0 rfl rfl h_4 dX12_monday_29 ?_
    refine lv_istore_n (lv' := [(2, .int ((yWho_r z3) (v1).toNatClampNeg)), (0, .ref (a 0)), (1, .int v1)]) hx hb dX12_monday_30 rfl hl (by decide) rfl (fun ls hl => ?_)
    refine lv_iload_n hx hb dX12_monday_31 rfl (lv_at hl 2 rfl) ?_
    refine lv_istore_n (lv' := [(3, .int v1), (2, .int ((yWho_r z3) (v1).toNatClampNeg)), (0, .ref (a 0)), (1, .int v1)]) hx hb dX12_monday_32 rfl hl (by decide) rfl (fun ls hl => ?_)
    refine lv_aload_n hx hb dX12_monday_33 rfl (lv_at hl 2 rfl) ?_
    obtain ⟨r5, hc5, hf⟩ := kb_bind hf
    refine kb_ci (ws2 := (w_MO dA a (some (ba 0)) q1 g2 g3 g4 g5 (wa 0) (la 0) (ha 0) (ca 0) g10 g11 g12 g13 g14 g15 g16 g17 g18 z0 ++ (w_W dA wa y_w ++ (w_Looks dA la y_looks ++ (w_Who dA ha z3 ++ (w_Look dA ca z4 ++ (w_Bus dA ba bu))))))) (kb_rV (n := 0) (As := []) (rest := []) hx hb hml hown hK (c_X12_allSeats l D dA H.size a ba q1 g2 g3 g4 g5 (wa 0) (la 0) (ha 0) (ca 0) g10 g11 g12 g13 g14 g15 g16 g17 g18 z0 bu r5 hc5) ⟨ww_8_118, ww_8_115, ww_8_117, ws_107, ww_1_12, rfl, by decide, by decide⟩ rfl rfl (by decide +kernel) ⟨Nat.le_of_ble_eq_true rfl, Nat.le_of_ble_eq_true rfl⟩ hP hD hS hA hE [0, 5, 6, 7, 8, 9, 10, 11, 12, 13, 14, 15, 16, 17, 18, 19, 20] rfl (by decide) 0 rfl rfl rfl hl.1 rfl (Nat.le_of_ble_eq_true rfl) dX12_monday_34 ⟨Nat.le_of_ble_eq_true rfl, Nat.le_of_ble_eq_true rfl⟩) hP hD hS hA [0, 5, 6, 7, 8, 9, 10, 11, 12, 13, 14, 15, 16, 17, 18, 19, 20] [1, 2, 3, 4] [4, 0, 1, 2, 3, 5, 6, 7, 8, 9, 10, 11, 12, 13, 14, 15, 16, 17, 18, 19, 20] rfl rfl (by decide) (by decide) rfl (by decide) (fun H locs hP hD hS => ?_)
    refine lv_istore (lv' := [(4, .int r5), (3, .int v1), (2, .int ((yWho_r z3) (v1).toNatClampNeg)), (0, .ref (a 0)), (1, .int v1)]) hx hb dX12_monday_37 hl (by decide) rfl (fun ls hl => ?_)
    refine lv_iconst (v := (0 : Int32)) hx hb dX12_monday_39 (by decide) ?_
    refine lv_istore (lv' := [(5, .int (0 : Int32)), (4, .int r5), (3, .int v1), (2, .int ((yWho_r z3) (v1).toNatClampNeg)), (0, .ref (a 0)), (1, .int v1)]) hx hb dX12_monday_40 hl (by decide) rfl (fun ls hl => ?_)
    refine lv_aload_n hx hb dX12_monday_42 rfl (lv_at hl 4 rfl) ?_
    refine va_get (D := D) (ci := 12) (v := .ref (ha 0)) (C := RX12) (T := TX12) (N := 35) hx hb hts kb_inX12 hown hK.1 hP 0 rfl rfl 22 (by decide) (hK.2.w ww_5_222 rfl _) (fun _ h9 => h9) rfl dX12_monday_43 ?_
    refine lv_iload_n hx hb dX12_monday_46 rfl (lv_at hl 2 rfl) ?_
    refine lv_bipush (v := (99 : Int32)) hx hb dX12_monday_47 (by decide) ?_
    obtain ⟨h_6, hf⟩ := kb_if hf
    refine va_iast (D := D) hx hb hK.1 hP hD hS 3 0 rfl rfl h_6 dX12_monday_49 (fun H locs hP hD hS => ?_)
    have hP : va_P D vwCl (w_MO dA a (some (ba 0)) q1 g2 g3 g4 g5 (wa 0) (la 0) (ha 0) (ca 0) g10 g11 g12 g13 g14 g15 g16 g17 g18 z0 ++ (w_W dA wa y_w ++ (w_Looks dA la y_looks ++ (w_Who dA ha (yWho_set_r z3 (upd (yWho_r z3) (v1).toNatClampNeg (99 : Int32))) ++ (w_Look dA ca z4 ++ (w_Bus dA ba bu)))))) H := hP
    have hD : va_D A (w_MO dA a (some (ba 0)) q1 g2 g3 g4 g5 (wa 0) (la 0) (ha 0) (ca 0) g10 g11 g12 g13 g14 g15 g16 g17 g18 z0 ++ (w_W dA wa y_w ++ (w_Looks dA la y_looks ++ (w_Who dA ha (yWho_set_r z3 (upd (yWho_r z3) (v1).toNatClampNeg (99 : Int32))) ++ (w_Look dA ca z4 ++ (w_Bus dA ba bu)))))) := hD
    exact B_50 _ _ _ _ _ _ _ _ _ _ hf hP hD hS (lv_sub hl [4, 3, 2, 1, 0] rfl)
  have B_5 : ∀ (v1 : Int32) (z0 : MOT) (z3 : WhoT) (z4 : LookT) (H : Heap) (locs : List Loc) (ls : Array Slot), f_X12_monday_b5 y_w y_looks bu v1 z0 z3 z4 = some (rv, u0, u3, u4) → va_P D vwCl (w_MO dA a (some (ba 0)) q1 g2 g3 g4 g5 (wa 0) (la 0) (ha 0) (ca 0) g10 g11 g12 g13 g14 g15 g16 g17 g18 z0 ++ (w_W dA wa y_w ++ (w_Looks dA la y_looks ++ (w_Who dA ha z3 ++ (w_Look dA ca z4 ++ (w_Bus dA ba bu)))))) H → va_D A (w_MO dA a (some (ba 0)) q1 g2 g3 g4 g5 (wa 0) (la 0) (ha 0) (ca 0) g10 g11 g12 g13 g14 g15 g16 g17 g18 z0 ++ (w_W dA wa y_w ++ (w_Looks dA la y_looks ++ (w_Who dA ha z3 ++ (w_Look dA ca z4 ++ (w_Bus dA ba bu)))))) → va_S A s.heap H locs → lv_has ls 7 [(0, .ref (a 0)), (1, .int v1)] → W p l e ({ frames := 5, cells := 0, slots := 0, locals := 122 } : Room) s m ([.ref (a 0), .int x0] : List Value).toArray below meth c H locs 0 0 Q (F0 m 5 ls []) := by
    intro v1 z0 z3 z4 H locs ls hf hP hD hS hl
    rw [f_X12_monday_b5] at hf
    refine lv_aload_n hx hb dX12_monday_5 rfl (lv_at hl 0 rfl) ?_
    refine lv_iload_n hx hb dX12_monday_6 rfl (lv_at hl 1 rfl) ?_
    obtain ⟨r1, hc1, hf⟩ := kb_bind hf
    refine kb_ci (ws2 := (w_MO dA a (some (ba 0)) q1 g2 g3 g4 g5 (wa 0) (la 0) (ha 0) (ca 0) g10 g11 g12 g13 g14 g15 g16 g17 g18 z0 ++ (w_W dA wa y_w ++ (w_Looks dA la y_looks ++ (w_Who dA ha z3 ++ (w_Look dA ca z4 ++ (w_Bus dA ba bu))))))) (kb_rV (n := 1) (As := [.int v1]) (rest := []) hx hb hml hown hK (c_X12_isSeat l D dA H.size a ba q1 g2 g3 g4 g5 (wa 0) (la 0) (ha 0) (ca 0) g10 g11 g12 g13 g14 g15 g16 g17 g18 z0 bu v1 r1 hc1) ⟨ww_7_179, ww_7_176, ww_7_178, ws_84, ww_1_12, rfl, by decide, by decide⟩ rfl rfl (by decide +kernel) ⟨Nat.le_of_ble_eq_true rfl, Nat.le_of_ble_eq_true rfl⟩ hP hD hS hA hE [0, 5, 6, 7, 8, 9, 10, 11, 12, 13, 14, 15, 16, 17, 18, 19, 20] rfl (by decide) 0 rfl rfl rfl hl.1 rfl (Nat.le_of_ble_eq_true rfl) dX12_monday_7 ⟨Nat.le_of_ble_eq_true rfl, Nat.le_of_ble_eq_true rfl⟩) hP hD hS hA [0, 5, 6, 7, 8, 9, 10, 11, 12, 13, 14, 15, 16, 17, 18, 19, 20] [1, 2, 3, 4] [4, 0, 1, 2, 3, 5, 6, 7, 8, 9, 10, 11, 12, 13, 14, 15, 16, 17, 18, 19, 20] rfl rfl (by decide) (by decide) rfl (by decide) (fun H locs hP hD hS => ?_)
    refine lv_if_ne (tgt := 19) hx hb dX12_monday_10 (by decide) (fun c_2 => ?_) (fun c_2 => ?_)
    · rw [if_neg c_2] at hf
      refine lv_aload_n hx hb dX12_monday_19 rfl (lv_at hl 0 rfl) ?_
      refine lv_iconst (v := (-1 : Int32)) hx hb dX12_monday_20 (by decide) ?_
      obtain ⟨r3, hc3, hf⟩ := kb_bind hf
      refine kb_cv (ws2 := (w_MO dA a (some (ba 0)) q1 g2 g3 g4 g5 (wa 0) (la 0) (ha 0) (ca 0) g10 g11 g12 g13 g14 g15 g16 g17 g18 z0 ++ (w_W dA wa y_w ++ (w_Looks dA la y_looks ++ (w_Who dA ha r3.1 ++ (w_Look dA ca r3.2 ++ (w_Bus dA ba bu))))))) (kb_rV (n := 1) (As := [.int (-1 : Int32)]) (rest := []) hx hb hml hown hK (c_X12_sees l D dA H.size a wa la ha ca ba q1 g2 g3 g4 g5 g10 g11 g12 g13 g14 g15 g16 g17 g18 z0 y_w y_looks z3 z4 bu (-1 : Int32) r3.1 r3.2 hc3) ⟨ww_7_206, ww_7_203, ww_7_205, ws_90, ww_1_12, rfl, by decide, by decide⟩ rfl rfl (by decide +kernel) ⟨Nat.le_of_ble_eq_true rfl, Nat.le_of_ble_eq_true rfl⟩ hP hD hS hA hE [0, 1, 2, 3, 4, 5, 6, 7, 8, 9, 10, 11, 12, 13, 14, 15, 16, 17, 18, 19, 20] rfl (by decide) 0 rfl rfl rfl hl.1 rfl (Nat.le_of_ble_eq_true rfl) dX12_monday_21 ⟨Nat.le_of_ble_eq_true rfl, Nat.le_of_ble_eq_true rfl⟩) hP hD hS hA [0, 1, 2, 3, 4, 5, 6, 7, 8, 9, 10, 11, 12, 13, 14, 15, 16, 17, 18, 19, 20] [] [0, 1, 2, 3, 4, 5, 6, 7, 8, 9, 10, 11, 12, 13, 14, 15, 16, 17, 18, 19, 20] rfl rfl (by decide) (by decide) rfl (by decide) (fun H locs hP hD hS => ?_)
      exact B_24 _ _ _ _ _ _ _ hf hP hD hS (lv_sub hl [0, 1] rfl)
    · rw [if_pos c_2] at hf
      refine lv_aload_n hx hb dX12_monday_13 rfl (lv_at hl 0 rfl) ?_
      refine lv_iconst (v := (1 : Int32)) hx hb dX12_monday_14 (by decide) ?_
      obtain ⟨r20, hc20, hf⟩ := kb_bind hf
      refine kb_ci (ws2 := (w_MO dA a (some (ba 0)) q1 g2 g3 g4 g5 (wa 0) (la 0) (ha 0) (ca 0) g10 g11 g12 g13 g14 g15 g16 g17 g18 r20.2 ++ (w_W dA wa y_w ++ (w_Looks dA la y_looks ++ (w_Who dA ha z3 ++ (w_Look dA ca z4 ++ (w_Bus dA ba bu))))))) (kb_rV (n := 1) (As := [.int (1 : Int32)]) (rest := []) hx hb hml hown hK (c_X12_refused l D dA H.size a (some (ba 0)) q1 g2 g3 g4 g5 (wa 0) (la 0) (ha 0) (ca 0) g10 g11 g12 g13 g14 g15 g16 g17 g18 z0 (1 : Int32) r20.1 r20.2 hc20) ⟨ww_6_82, ww_6_79, ww_6_81, ws_46, ww_1_12, rfl, by decide, by decide⟩ rfl rfl (by decide +kernel) ⟨Nat.le_of_ble_eq_true rfl, Nat.le_of_ble_eq_true rfl⟩ hP hD hS hA hE [0] rfl (by decide) 0 rfl rfl rfl hl.1 rfl (Nat.le_of_ble_eq_true rfl) dX12_monday_15 ⟨Nat.le_of_ble_eq_true rfl, Nat.le_of_ble_eq_true rfl⟩) hP hD hS hA [0] [1, 2, 3, 4, 5, 6, 7, 8, 9, 10, 11, 12, 13, 14, 15, 16, 17, 18, 19, 20] [20, 0, 1, 2, 3, 4, 5, 6, 7, 8, 9, 10, 11, 12, 13, 14, 15, 16, 17, 18, 19] rfl rfl (by decide) (by decide) rfl (by decide) (fun H locs hP hD hS => ?_)
      exact RET _ _ _ _ H _ ls 18 hf hP hD hS dX12_monday_18
  have E0 : ∀ (H : Heap) (locs : List Loc), va_P D vwCl (w_MO dA a (some (ba 0)) q1 g2 g3 g4 g5 (wa 0) (la 0) (ha 0) (ca 0) g10 g11 g12 g13 g14 g15 g16 g17 g18 mo ++ (w_W dA wa y_w ++ (w_Looks dA la y_looks ++ (w_Who dA ha y_who ++ (w_Look dA ca y_look ++ (w_Bus dA ba bu)))))) H → va_D A (w_MO dA a (some (ba 0)) q1 g2 g3 g4 g5 (wa 0) (la 0) (ha 0) (ca 0) g10 g11 g12 g13 g14 g15 g16 g17 g18 mo ++ (w_W dA wa y_w ++ (w_Looks dA la y_looks ++ (w_Who dA ha y_who ++ (w_Look dA ca y_look ++ (w_Bus dA ba bu)))))) → va_S A s.heap H locs → W p l e ({ frames := 5, cells := 0, slots := 0, locals := 122 } : Room) s m ([.ref (a 0), .int x0] : List Value).toArray below meth c H locs 0 0 Q (F0 m 0 ls []) := by
    intro H locs hP hD hS
    rw [f_X12_monday] at hf
    refine lv_aload_n hx hb dX12_monday_0 rfl (lv_at hl 0 rfl) ?_
    refine lv_iconst (v := (0 : Int32)) hx hb dX12_monday_1 (by decide) ?_
    refine va_put (D := D) (ci := 12) (v := .int (0 : Int32)) (ty := .int) (C := RX12) (T := TX12) (N := 35) hx hb hts kb_inX12 tyX12 tyX12_ok nmX12 hown hK.1 hP hD hS 0 rfl rfl 0 (by decide) (hK.2.w ww_5_200 rfl _) (fun _ h9 => h9) rfl (by decide +kernel) rfl rfl (Nat.le_of_ble_eq_true rfl) dX12_monday_2 (fun H locs hP hD hS => ?_)
    have hP : va_P D vwCl (w_MO dA a (some (ba 0)) q1 g2 g3 g4 g5 (wa 0) (la 0) (ha 0) (ca 0) g10 g11 g12 g13 g14 g15 g16 g17 g18 (mo_set_thrown mo (0 : Int32)) ++ (w_W dA wa y_w ++ (w_Looks dA la y_looks ++ (w_Who dA ha y_who ++ (w_Look dA ca y_look ++ (w_Bus dA ba bu)))))) H := hP
    have hD : va_D A (w_MO dA a (some (ba 0)) q1 g2 g3 g4 g5 (wa 0) (la 0) (ha 0) (ca 0) g10 g11 g12 g13 g14 g15 g16 g17 g18 (mo_set_thrown mo (0 : Int32)) ++ (w_W dA wa y_w ++ (w_Looks dA la y_looks ++ (w_Who dA ha y_who ++ (w_Look dA ca y_look ++ (w_Bus dA ba bu)))))) := hD
    exact B_5 _ _ _ _ _ _ _ hf hP hD hS (lv_sub hl [0, 1] rfl)
  exact E0 _ _ hP hD hS

noncomputable def f_X12_doorCost (mo : MOT) (y_w : WT) (bu : BusT) (x0 : Int32) (x1 : Int32) : Option (Int32) := if kb_in? x0 8 then if kb_in? (52 : Int32) 56 then (if x1 = 0 then some (((bu_pace bu) * ((((bu_off bu) (x0).toNatClampNeg) - ((yW_r y_w) ((52 : Int32)).toNatClampNeg)) + (1 : Int32)))) else some (((2 : Int32) * ((bu_pace bu) * ((((bu_off bu) (x0).toNatClampNeg) - ((yW_r y_w) ((52 : Int32)).toNatClampNeg)) + (1 : Int32)))))) else none else none
set_option maxHeartbeats 4000000 in
set_option maxRecDepth 100000 in
theorem c_X12_doorCost (l : Launch) (D : va_G) (dA : Nat → ClassId) (sz : Nat) (a : Nat → Nat) (wa : Nat → Nat) (ba : Nat → Nat) (q1 : Option Nat) (g2 : Nat) (g3 : Nat) (g4 : Nat) (g5 : Nat) (g7 : Nat) (g8 : Nat) (g9 : Nat) (g10 : Nat) (g11 : Nat) (g12 : Nat) (g13 : Nat) (g14 : Nat) (g15 : Nat) (g16 : Nat) (g17 : Nat) (g18 : Nat) (mo : MOT) (y_w : WT) (bu : BusT) (x0 : Int32) (x1 : Int32) (rv : Int32) (hf : f_X12_doorCost mo y_w bu x0 x1 = some (rv)) : kb_Mi l yX12_doorCost cX12_doorCost 4 (some .int) ({ frames := 0, cells := 0, slots := 0, locals := 0 } : Room) D dA [.ref (a 0), .int x0, .int x1] sz (w_MO dA a (some (ba 0)) q1 g2 g3 g4 g5 (wa 0) g7 g8 g9 g10 g11 g12 g13 g14 g15 g16 g17 g18 mo ++ (w_W dA wa y_w ++ (w_Bus dA ba bu))) 0 0 rv (w_MO dA a (some (ba 0)) q1 g2 g3 g4 g5 (wa 0) g7 g8 g9 g10 g11 g12 g13 g14 g15 g16 g17 g18 mo ++ (w_W dA wa y_w ++ (w_Bus dA ba bu))) := by
  refine Met.ofW (cc := cX12_doorCost) (maxL := 4) (ret := (some .int)) (by decide) rfl ?_
  intro p e s m args below meth c s₁ B hml hv
  obtain ⟨rfl, hsz, hP, hK, hD0, hE⟩ := hv
  have hx := B.exec
  have hb := B.bytes
  have hr := B.returns
  have hown : s.vm.findClass RX12 = some m.cls := findClass_of_methodNamed B.named
  have hlocks := B.notSynchronized
  have hts : ∀ w ∈ kb_gw, w.before ([.ref (a 0), .int x0, .int x1] : List Value).toArray s = true := fun w hw => hK.2.1 w hw _
  subst hsz
  have hD := hD0.self (sz := s.heap.size)
  generalize hAe : va_A (w_MO dA a (some (ba 0)) q1 g2 g3 g4 g5 (wa 0) g7 g8 g9 g10 g11 g12 g13 g14 g15 g16 g17 g18 mo ++ (w_W dA wa y_w ++ (w_Bus dA ba bu))) s.heap.size = A at hD hE ⊢
  have hA : ∀ q : Nat, s.heap.size ≤ q → A q := fun q h => by rw [← hAe]; exact Or.inr h
  have hS : va_S A s.heap s.heap [] := va_S.rf
  have hl := lv_entry ([.ref (a 0), .int x0, .int x1]) (n := 4) (Nat.le_of_ble_eq_true rfl)
  rw [lg_entry_eq]
  generalize (lg_sl ([.ref (a 0), .int x0, .int x1]) ++ List.replicate (4 - (lg_sl ([.ref (a 0), .int x0, .int x1])).length) Slot.unset).toArray = ls at hl ⊢
  have hl : lv_has ls 4 [(0, .ref (a 0)), (1, .int x0), (2, .int x1)] := hl
  generalize hQ : MQ below (va_Qi (fun r (_ : Unit) => r = rv) (kb_B D A (w_MO dA a (some (ba 0)) q1 g2 g3 g4 g5 (wa 0) g7 g8 g9 g10 g11 g12 g13 g14 g15 g16 g17 g18 mo ++ (w_W dA wa y_w ++ (w_Bus dA ba bu)))) A) ([.ref (a 0), .int x0, .int x1] : List Value).toArray s 0 0 A = Q
  show W p l e ({ frames := 0, cells := 0, slots := 0, locals := 0 } : Room) s m ([.ref (a 0), .int x0, .int x1] : List Value).toArray below meth c s.heap [] 0 0 Q (F0 m 0 ls [])
  have RET : ∀ (r2 : Int32) (H : Heap) (locs : List Loc) (ls : Array Slot) (pc : Nat), some (r2) = some (rv) → va_P D vwCl (w_MO dA a (some (ba 0)) q1 g2 g3 g4 g5 (wa 0) g7 g8 g9 g10 g11 g12 g13 g14 g15 g16 g17 g18 mo ++ (w_W dA wa y_w ++ (w_Bus dA ba bu))) H → va_D A (w_MO dA a (some (ba 0)) q1 g2 g3 g4 g5 (wa 0) g7 g8 g9 g10 g11 g12 g13 g14 g15 g16 g17 g18 mo ++ (w_W dA wa y_w ++ (w_Bus dA ba bu))) → va_S A s.heap H locs → decode cX12_doorCost pc = .ok (.ireturn, 1) → W p l e ({ frames := 0, cells := 0, slots := 0, locals := 0 } : Room) s m ([.ref (a 0), .int x0, .int x1] : List Value).toArray below meth c H locs 0 0 Q (F0 m pc ls [.int r2]) := by
    intro r2 H locs ls pc hq hP hD hS hd
    cases hq
    rw [← hQ]
    exact W.iret hx hb hr (fun t ht hW => ⟨⟨_, (), rfl, rfl, by rw [ht]; exact hP, hD⟩, hS.F ht⟩) hS.2.2 hd
  have E0 : ∀ (H : Heap) (locs : List Loc), va_P D vwCl (w_MO dA a (some (ba 0)) q1 g2 g3 g4 g5 (wa 0) g7 g8 g9 g10 g11 g12 g13 g14 g15 g16 g17 g18 mo ++ (w_W dA wa y_w ++ (w_Bus dA ba bu))) H → va_D A (w_MO dA a (some (ba 0)) q1 g2 g3 g4 g5 (wa 0) g7 g8 g9 g10 g11 g12 g13 g14 g15 g16 g17 g18 mo ++ (w_W dA wa y_w ++ (w_Bus dA ba bu))) → va_S A s.heap H locs → W p l e ({ frames := 0, cells := 0, slots := 0, locals := 0 } : Room) s m ([.ref (a 0), .int x0, .int x1] : List Value).toArray below meth c H locs 0 0 Q (F0 m 0 ls []) := by
    intro H locs hP hD hS
    rw [f_X12_doorCost] at hf
    refine lv_aload_n hx hb dX12_doorCost_0 rfl (lv_at hl 0 rfl) ?_
    refine va_get (D := D) (ci := 12) (v := .ref (ba 0)) (C := RX12) (T := TX12) (N := 35) hx hb hts kb_inX12 hown hK.1 hP 0 rfl rfl 3 (by decide) (hK.2.w ww_5_203 rfl _) (fun _ h9 => h9) rfl dX12_doorCost_1 ?_
    refine va_getN (D := D) (ci := 11) (v := .int (bu_pace bu)) (C := RX11) (T := TX11) (N := 26) hx hb hts kb_inX11 hown hK.1 hP 2 rfl rfl 3 (by decide) (hK.2.nb ww_6_92 rfl rfl _) (fun _ h9 => h9) rfl dX12_doorCost_4 ?_
    refine lv_aload_n hx hb dX12_doorCost_7 rfl (lv_at hl 0 rfl) ?_
    refine va_get (D := D) (ci := 12) (v := .ref (ba 0)) (C := RX12) (T := TX12) (N := 35) hx hb hts kb_inX12 hown hK.1 hP 0 rfl rfl 3 (by decide) (hK.2.w ww_5_203 rfl _) (fun _ h9 => h9) rfl dX12_doorCost_8 ?_
    refine va_getN (D := D) (ci := 11) (v := .ref (ba 4)) (C := RX11) (T := TX11) (N := 26) hx hb hts kb_inX11 hown hK.1 hP 2 rfl rfl 14 (by decide) (hK.2.nb ww_6_109 rfl rfl _) (fun _ h9 => h9) rfl dX12_doorCost_11 ?_
    refine lv_iload_n hx hb dX12_doorCost_14 rfl (lv_at hl 1 rfl) ?_
    obtain ⟨h_1, hf⟩ := kb_if hf
    refine va_iald (D := D) hx hb hK.1 hP 6 0 rfl rfl h_1 dX12_doorCost_15 ?_
    refine lv_aload_n hx hb dX12_doorCost_16 rfl (lv_at hl 0 rfl) ?_
    refine va_get (D := D) (ci := 12) (v := .ref (wa 0)) (C := RX12) (T := TX12) (N := 35) hx hb hts kb_inX12 hown hK.1 hP 0 rfl rfl 19 (by decide) (hK.2.w ww_5_219 rfl _) (fun _ h9 => h9) rfl dX12_doorCost_17 ?_
    refine lv_bipush (v := (52 : Int32)) hx hb dX12_doorCost_20 (by decide) ?_
    obtain ⟨h_2, hf⟩ := kb_if hf
    refine va_iald (D := D) hx hb hK.1 hP 1 0 rfl rfl h_2 dX12_doorCost_22 ?_
    refine lv_isub hx hb dX12_doorCost_23 ?_
    refine lv_iconst (v := (1 : Int32)) hx hb dX12_doorCost_24 (by decide) ?_
    refine lv_iadd hx hb dX12_doorCost_25 ?_
    refine lv_imul hx hb dX12_doorCost_26 ?_
    refine lv_istore_n (lv' := [(3, .int ((bu_pace bu) * ((((bu_off bu) (x0).toNatClampNeg) - ((yW_r y_w) ((52 : Int32)).toNatClampNeg)) + (1 : Int32)))), (0, .ref (a 0)), (1, .int x0), (2, .int x1)]) hx hb dX12_doorCost_27 rfl hl (by decide) rfl (fun ls hl => ?_)
    refine lv_iload_n hx hb dX12_doorCost_28 rfl (lv_at hl 3 rfl) ?_
    refine lv_if_eq (tgt := 38) hx hb dX12_doorCost_29 (by decide) (fun c_3 => ?_) (fun c_3 => ?_)
    · rw [if_pos c_3] at hf
      refine lv_iload_n hx hb dX12_doorCost_38 rfl (lv_at hl 0 rfl) ?_
      exact RET _ H _ ls 39 hf hP hD hS dX12_doorCost_39
    · rw [if_neg c_3] at hf
      refine lv_iconst (v := (2 : Int32)) hx hb dX12_doorCost_32 (by decide) ?_
      refine lv_iload_n hx hb dX12_doorCost_33 rfl (lv_at hl 0 rfl) ?_
      refine lv_imul hx hb dX12_doorCost_34 ?_
      refine lv_goto (tgt := 39) hx hb dX12_doorCost_35 (by decide) ?_
      exact RET _ H _ ls 39 hf hP hD hS dX12_doorCost_39
  exact E0 _ _ hP hD hS

noncomputable def f_X12_withinCost (mo : MOT) (bu : BusT) (x0 : Int32) : Option (Int32) := (if x0 = 0 then some (((((bu_pace bu) * ((1 : Int32) + (bu_rows bu))) + (bu_rise bu)) + (0 : Int32))) else some (((((bu_pace bu) * ((1 : Int32) + (bu_rows bu))) + (bu_rise bu)) + (bu_rise bu))))
set_option maxHeartbeats 4000000 in
set_option maxRecDepth 100000 in
theorem c_X12_withinCost (l : Launch) (D : va_G) (dA : Nat → ClassId) (sz : Nat) (a : Nat → Nat) (ba : Nat → Nat) (q1 : Option Nat) (g2 : Nat) (g3 : Nat) (g4 : Nat) (g5 : Nat) (g6 : Nat) (g7 : Nat) (g8 : Nat) (g9 : Nat) (g10 : Nat) (g11 : Nat) (g12 : Nat) (g13 : Nat) (g14 : Nat) (g15 : Nat) (g16 : Nat) (g17 : Nat) (g18 : Nat) (mo : MOT) (bu : BusT) (x0 : Int32) (rv : Int32) (hf : f_X12_withinCost mo bu x0 = some (rv)) : kb_Mi l yX12_withinCost cX12_withinCost 2 (some .int) ({ frames := 0, cells := 0, slots := 0, locals := 0 } : Room) D dA [.ref (a 0), .int x0] sz (w_MO dA a (some (ba 0)) q1 g2 g3 g4 g5 g6 g7 g8 g9 g10 g11 g12 g13 g14 g15 g16 g17 g18 mo ++ (w_Bus dA ba bu)) 0 0 rv (w_MO dA a (some (ba 0)) q1 g2 g3 g4 g5 g6 g7 g8 g9 g10 g11 g12 g13 g14 g15 g16 g17 g18 mo ++ (w_Bus dA ba bu)) := by
  refine Met.ofW (cc := cX12_withinCost) (maxL := 2) (ret := (some .int)) (by decide) rfl ?_
  intro p e s m args below meth c s₁ B hml hv
  obtain ⟨rfl, hsz, hP, hK, hD0, hE⟩ := hv
  have hx := B.exec
  have hb := B.bytes
  have hr := B.returns
  have hown : s.vm.findClass RX12 = some m.cls := findClass_of_methodNamed B.named
  have hlocks := B.notSynchronized
  have hts : ∀ w ∈ kb_gw, w.before ([.ref (a 0), .int x0] : List Value).toArray s = true := fun w hw => hK.2.1 w hw _
  subst hsz
  have hD := hD0.self (sz := s.heap.size)
  generalize hAe : va_A (w_MO dA a (some (ba 0)) q1 g2 g3 g4 g5 g6 g7 g8 g9 g10 g11 g12 g13 g14 g15 g16 g17 g18 mo ++ (w_Bus dA ba bu)) s.heap.size = A at hD hE ⊢
  have hA : ∀ q : Nat, s.heap.size ≤ q → A q := fun q h => by rw [← hAe]; exact Or.inr h
  have hS : va_S A s.heap s.heap [] := va_S.rf
  have hl := lv_entry ([.ref (a 0), .int x0]) (n := 2) (Nat.le_of_ble_eq_true rfl)
  rw [lg_entry_eq]
  generalize (lg_sl ([.ref (a 0), .int x0]) ++ List.replicate (2 - (lg_sl ([.ref (a 0), .int x0])).length) Slot.unset).toArray = ls at hl ⊢
  have hl : lv_has ls 2 [(0, .ref (a 0)), (1, .int x0)] := hl
  generalize hQ : MQ below (va_Qi (fun r (_ : Unit) => r = rv) (kb_B D A (w_MO dA a (some (ba 0)) q1 g2 g3 g4 g5 g6 g7 g8 g9 g10 g11 g12 g13 g14 g15 g16 g17 g18 mo ++ (w_Bus dA ba bu))) A) ([.ref (a 0), .int x0] : List Value).toArray s 0 0 A = Q
  show W p l e ({ frames := 0, cells := 0, slots := 0, locals := 0 } : Room) s m ([.ref (a 0), .int x0] : List Value).toArray below meth c s.heap [] 0 0 Q (F0 m 0 ls [])
  have RET : ∀ (r2 : Int32) (H : Heap) (locs : List Loc) (ls : Array Slot) (pc : Nat), some (r2) = some (rv) → va_P D vwCl (w_MO dA a (some (ba 0)) q1 g2 g3 g4 g5 g6 g7 g8 g9 g10 g11 g12 g13 g14 g15 g16 g17 g18 mo ++ (w_Bus dA ba bu)) H → va_D A (w_MO dA a (some (ba 0)) q1 g2 g3 g4 g5 g6 g7 g8 g9 g10 g11 g12 g13 g14 g15 g16 g17 g18 mo ++ (w_Bus dA ba bu)) → va_S A s.heap H locs → decode cX12_withinCost pc = .ok (.ireturn, 1) → W p l e ({ frames := 0, cells := 0, slots := 0, locals := 0 } : Room) s m ([.ref (a 0), .int x0] : List Value).toArray below meth c H locs 0 0 Q (F0 m pc ls [.int r2]) := by
    intro r2 H locs ls pc hq hP hD hS hd
    cases hq
    rw [← hQ]
    exact W.iret hx hb hr (fun t ht hW => ⟨⟨_, (), rfl, rfl, by rw [ht]; exact hP, hD⟩, hS.F ht⟩) hS.2.2 hd
  have E0 : ∀ (H : Heap) (locs : List Loc), va_P D vwCl (w_MO dA a (some (ba 0)) q1 g2 g3 g4 g5 g6 g7 g8 g9 g10 g11 g12 g13 g14 g15 g16 g17 g18 mo ++ (w_Bus dA ba bu)) H → va_D A (w_MO dA a (some (ba 0)) q1 g2 g3 g4 g5 g6 g7 g8 g9 g10 g11 g12 g13 g14 g15 g16 g17 g18 mo ++ (w_Bus dA ba bu)) → va_S A s.heap H locs → W p l e ({ frames := 0, cells := 0, slots := 0, locals := 0 } : Room) s m ([.ref (a 0), .int x0] : List Value).toArray below meth c H locs 0 0 Q (F0 m 0 ls []) := by
    intro H locs hP hD hS
    rw [f_X12_withinCost] at hf
    refine lv_aload_n hx hb dX12_withinCost_0 rfl (lv_at hl 0 rfl) ?_
    refine va_get (D := D) (ci := 12) (v := .ref (ba 0)) (C := RX12) (T := TX12) (N := 35) hx hb hts kb_inX12 hown hK.1 hP 0 rfl rfl 3 (by decide) (hK.2.w ww_5_203 rfl _) (fun _ h9 => h9) rfl dX12_withinCost_1 ?_
    refine va_getN (D := D) (ci := 11) (v := .int (bu_pace bu)) (C := RX11) (T := TX11) (N := 26) hx hb hts kb_inX11 hown hK.1 hP 1 rfl rfl 3 (by decide) (hK.2.nb ww_6_92 rfl rfl _) (fun _ h9 => h9) rfl dX12_withinCost_4 ?_
    refine lv_iconst (v := (1 : Int32)) hx hb dX12_withinCost_7 (by decide) ?_
    refine lv_aload_n hx hb dX12_withinCost_8 rfl (lv_at hl 0 rfl) ?_
    refine va_get (D := D) (ci := 12) (v := .ref (ba 0)) (C := RX12) (T := TX12) (N := 35) hx hb hts kb_inX12 hown hK.1 hP 0 rfl rfl 3 (by decide) (hK.2.w ww_5_203 rfl _) (fun _ h9 => h9) rfl dX12_withinCost_9 ?_
    refine va_getN (D := D) (ci := 11) (v := .int (bu_rows bu)) (C := RX11) (T := TX11) (N := 26) hx hb hts kb_inX11 hown hK.1 hP 1 rfl rfl 0 (by decide) (hK.2.nb ww_6_89 rfl rfl _) (fun _ h9 => h9) rfl dX12_withinCost_12 ?_
    refine lv_iadd hx hb dX12_withinCost_15 ?_
    refine lv_imul hx hb dX12_withinCost_16 ?_
    refine lv_aload_n hx hb dX12_withinCost_17 rfl (lv_at hl 0 rfl) ?_
    refine va_get (D := D) (ci := 12) (v := .ref (ba 0)) (C := RX12) (T := TX12) (N := 35) hx hb hts kb_inX12 hown hK.1 hP 0 rfl rfl 3 (by decide) (hK.2.w ww_5_203 rfl _) (fun _ h9 => h9) rfl dX12_withinCost_18 ?_
    refine va_getN (D := D) (ci := 11) (v := .int (bu_rise bu)) (C := RX11) (T := TX11) (N := 26) hx hb hts kb_inX11 hown hK.1 hP 1 rfl rfl 4 (by decide) (hK.2.nb ww_6_93 rfl rfl _) (fun _ h9 => h9) rfl dX12_withinCost_21 ?_
    refine lv_iadd hx hb dX12_withinCost_24 ?_
    refine lv_iload_n hx hb dX12_withinCost_25 rfl (lv_at hl 1 rfl) ?_
    refine lv_if_eq (tgt := 39) hx hb dX12_withinCost_26 (by decide) (fun c_1 => ?_) (fun c_1 => ?_)
    · rw [if_pos c_1] at hf
      refine lv_iconst (v := (0 : Int32)) hx hb dX12_withinCost_39 (by decide) ?_
      refine lv_iadd hx hb dX12_withinCost_40 ?_
      exact RET _ H _ ls 41 hf hP hD hS dX12_withinCost_41
    · rw [if_neg c_1] at hf
      refine lv_aload_n hx hb dX12_withinCost_29 rfl (lv_at hl 0 rfl) ?_
      refine va_get (D := D) (ci := 12) (v := .ref (ba 0)) (C := RX12) (T := TX12) (N := 35) hx hb hts kb_inX12 hown hK.1 hP 0 rfl rfl 3 (by decide) (hK.2.w ww_5_203 rfl _) (fun _ h9 => h9) rfl dX12_withinCost_30 ?_
      refine va_getN (D := D) (ci := 11) (v := .int (bu_rise bu)) (C := RX11) (T := TX11) (N := 26) hx hb hts kb_inX11 hown hK.1 hP 1 rfl rfl 4 (by decide) (hK.2.nb ww_6_93 rfl rfl _) (fun _ h9 => h9) rfl dX12_withinCost_33 ?_
      refine lv_goto (tgt := 40) hx hb dX12_withinCost_36 (by decide) ?_
      refine lv_iadd hx hb dX12_withinCost_40 ?_
      exact RET _ H _ ls 41 hf hP hD hS dX12_withinCost_41
  exact E0 _ _ hP hD hS

noncomputable def f_X12_rests (mo : MOT) (y_w : WT) (bu : BusT) (x0 : Int32) (x1 : Int32) (x2 : Int32) : Option (Int32) := (f_X12_doorCost mo y_w bu x0 x2).bind fun r1 => (f_X12_withinCost mo bu x2).bind fun r2 => (if x1 = 0 then (if r1 < r2 then some ((0 : Int32)) else some ((1 : Int32))) else (if r2 < r1 then some ((0 : Int32)) else some ((1 : Int32))))
set_option maxHeartbeats 4000000 in
set_option maxRecDepth 100000 in
theorem c_X12_rests (l : Launch) (D : va_G) (dA : Nat → ClassId) (sz : Nat) (a : Nat → Nat) (wa : Nat → Nat) (ba : Nat → Nat) (q1 : Option Nat) (g2 : Nat) (g3 : Nat) (g4 : Nat) (g5 : Nat) (g7 : Nat) (g8 : Nat) (g9 : Nat) (g10 : Nat) (g11 : Nat) (g12 : Nat) (g13 : Nat) (g14 : Nat) (g15 : Nat) (g16 : Nat) (g17 : Nat) (g18 : Nat) (mo : MOT) (y_w : WT) (bu : BusT) (x0 : Int32) (x1 : Int32) (x2 : Int32) (rv : Int32) (hf : f_X12_rests mo y_w bu x0 x1 x2 = some (rv)) : kb_Mi l yX12_rests cX12_rests 6 (some .boolean) ({ frames := 1, cells := 0, slots := 0, locals := 23 } : Room) D dA [.ref (a 0), .int x0, .int x1, .int x2] sz (w_MO dA a (some (ba 0)) q1 g2 g3 g4 g5 (wa 0) g7 g8 g9 g10 g11 g12 g13 g14 g15 g16 g17 g18 mo ++ (w_W dA wa y_w ++ (w_Bus dA ba bu))) 0 0 rv (w_MO dA a (some (ba 0)) q1 g2 g3 g4 g5 (wa 0) g7 g8 g9 g10 g11 g12 g13 g14 g15 g16 g17 g18 mo ++ (w_W dA wa y_w ++ (w_Bus dA ba bu))) := by
  refine Met.ofW (cc := cX12_rests) (maxL := 6) (ret := (some .boolean)) (by decide) rfl ?_
  intro p e s m args below meth c s₁ B hml hv
  obtain ⟨rfl, hsz, hP, hK, hD0, hE⟩ := hv
  have hx := B.exec
  have hb := B.bytes
  have hr := B.returns
  have hown : s.vm.findClass RX12 = some m.cls := findClass_of_methodNamed B.named
  have hlocks := B.notSynchronized
  have hts : ∀ w ∈ kb_gw, w.before ([.ref (a 0), .int x0, .int x1, .int x2] : List Value).toArray s = true := fun w hw => hK.2.1 w hw _
  subst hsz
  have hD := hD0.self (sz := s.heap.size)
  generalize hAe : va_A (w_MO dA a (some (ba 0)) q1 g2 g3 g4 g5 (wa 0) g7 g8 g9 g10 g11 g12 g13 g14 g15 g16 g17 g18 mo ++ (w_W dA wa y_w ++ (w_Bus dA ba bu))) s.heap.size = A at hD hE ⊢
  have hA : ∀ q : Nat, s.heap.size ≤ q → A q := fun q h => by rw [← hAe]; exact Or.inr h
  have hS : va_S A s.heap s.heap [] := va_S.rf
  have hl := lv_entry ([.ref (a 0), .int x0, .int x1, .int x2]) (n := 6) (Nat.le_of_ble_eq_true rfl)
  rw [lg_entry_eq]
  generalize (lg_sl ([.ref (a 0), .int x0, .int x1, .int x2]) ++ List.replicate (6 - (lg_sl ([.ref (a 0), .int x0, .int x1, .int x2])).length) Slot.unset).toArray = ls at hl ⊢
  have hl : lv_has ls 6 [(0, .ref (a 0)), (1, .int x0), (2, .int x1), (3, .int x2)] := hl
  generalize hQ : MQ below (va_Qi (fun r (_ : Unit) => r = rv) (kb_B D A (w_MO dA a (some (ba 0)) q1 g2 g3 g4 g5 (wa 0) g7 g8 g9 g10 g11 g12 g13 g14 g15 g16 g17 g18 mo ++ (w_W dA wa y_w ++ (w_Bus dA ba bu)))) A) ([.ref (a 0), .int x0, .int x1, .int x2] : List Value).toArray s 0 0 A = Q
  show W p l e ({ frames := 1, cells := 0, slots := 0, locals := 23 } : Room) s m ([.ref (a 0), .int x0, .int x1, .int x2] : List Value).toArray below meth c s.heap [] 0 0 Q (F0 m 0 ls [])
  have RET : ∀ (r2 : Int32) (H : Heap) (locs : List Loc) (ls : Array Slot) (pc : Nat), some (r2) = some (rv) → va_P D vwCl (w_MO dA a (some (ba 0)) q1 g2 g3 g4 g5 (wa 0) g7 g8 g9 g10 g11 g12 g13 g14 g15 g16 g17 g18 mo ++ (w_W dA wa y_w ++ (w_Bus dA ba bu))) H → va_D A (w_MO dA a (some (ba 0)) q1 g2 g3 g4 g5 (wa 0) g7 g8 g9 g10 g11 g12 g13 g14 g15 g16 g17 g18 mo ++ (w_W dA wa y_w ++ (w_Bus dA ba bu))) → va_S A s.heap H locs → kb_01 r2 → decode cX12_rests pc = .ok (.ireturn, 1) → W p l e ({ frames := 1, cells := 0, slots := 0, locals := 23 } : Room) s m ([.ref (a 0), .int x0, .int x1, .int x2] : List Value).toArray below meth c H locs 0 0 Q (F0 m pc ls [.int r2]) := by
    intro r2 H locs ls pc hq hP hD hS h01 hd
    cases hq
    rw [← hQ]
    exact W.zret (ty := .boolean) hx hb hr (kb_nz h01) (fun t ht hW => ⟨⟨_, (), rfl, rfl, by rw [ht]; exact hP, hD⟩, hS.F ht⟩) hS.2.2 hd
  have E0 : ∀ (H : Heap) (locs : List Loc), va_P D vwCl (w_MO dA a (some (ba 0)) q1 g2 g3 g4 g5 (wa 0) g7 g8 g9 g10 g11 g12 g13 g14 g15 g16 g17 g18 mo ++ (w_W dA wa y_w ++ (w_Bus dA ba bu))) H → va_D A (w_MO dA a (some (ba 0)) q1 g2 g3 g4 g5 (wa 0) g7 g8 g9 g10 g11 g12 g13 g14 g15 g16 g17 g18 mo ++ (w_W dA wa y_w ++ (w_Bus dA ba bu))) → va_S A s.heap H locs → W p l e ({ frames := 1, cells := 0, slots := 0, locals := 23 } : Room) s m ([.ref (a 0), .int x0, .int x1, .int x2] : List Value).toArray below meth c H locs 0 0 Q (F0 m 0 ls []) := by
    intro H locs hP hD hS
    rw [f_X12_rests] at hf
    refine lv_aload_n hx hb dX12_rests_0 rfl (lv_at hl 0 rfl) ?_
    refine lv_iload_n hx hb dX12_rests_1 rfl (lv_at hl 1 rfl) ?_
    refine lv_iload_n hx hb dX12_rests_2 rfl (lv_at hl 3 rfl) ?_
    obtain ⟨r1, hc1, hf⟩ := kb_bind hf
    refine kb_ci (ws2 := (w_MO dA a (some (ba 0)) q1 g2 g3 g4 g5 (wa 0) g7 g8 g9 g10 g11 g12 g13 g14 g15 g16 g17 g18 mo ++ (w_W dA wa y_w ++ (w_Bus dA ba bu)))) (kb_rV (n := 2) (As := [.int x0, .int x2]) (rest := []) hx hb hml hown hK (c_X12_doorCost l D dA H.size a wa ba q1 g2 g3 g4 g5 g7 g8 g9 g10 g11 g12 g13 g14 g15 g16 g17 g18 mo y_w bu x0 x2 r1 hc1) ⟨ww_8_130, ww_8_127, ww_8_129, ws_109, ww_1_12, rfl, by decide, by decide⟩ rfl rfl (by decide +kernel) ⟨Nat.le_of_ble_eq_true rfl, Nat.le_of_ble_eq_true rfl⟩ hP hD hS hA hE [0, 1, 2, 3, 4, 5, 6, 7, 8, 9, 10, 11, 12, 13, 14, 15, 16, 17] rfl (by decide) 0 rfl rfl rfl hl.1 rfl (Nat.le_of_ble_eq_true rfl) dX12_rests_3 ⟨Nat.le_of_ble_eq_true rfl, Nat.le_of_ble_eq_true rfl⟩) hP hD hS hA [0, 1, 2, 3, 4, 5, 6, 7, 8, 9, 10, 11, 12, 13, 14, 15, 16, 17] [] [0, 1, 2, 3, 4, 5, 6, 7, 8, 9, 10, 11, 12, 13, 14, 15, 16, 17] rfl rfl (by decide) (by decide) rfl (by decide) (fun H locs hP hD hS => ?_)
    refine lv_istore (lv' := [(4, .int r1), (0, .ref (a 0)), (1, .int x0), (2, .int x1), (3, .int x2)]) hx hb dX12_rests_6 hl (by decide) rfl (fun ls hl => ?_)
    refine lv_aload_n hx hb dX12_rests_8 rfl (lv_at hl 1 rfl) ?_
    refine lv_iload_n hx hb dX12_rests_9 rfl (lv_at hl 4 rfl) ?_
    obtain ⟨r2, hc2, hf⟩ := kb_bind hf
    refine kb_ci (ws2 := (w_MO dA a (some (ba 0)) q1 g2 g3 g4 g5 (wa 0) g7 g8 g9 g10 g11 g12 g13 g14 g15 g16 g17 g18 mo ++ (w_W dA wa y_w ++ (w_Bus dA ba bu)))) (kb_rV (n := 1) (As := [.int x2]) (rest := []) hx hb hml hown hK (c_X12_withinCost l D dA H.size a ba q1 g2 g3 g4 g5 (wa 0) g7 g8 g9 g10 g11 g12 g13 g14 g15 g16 g17 g18 mo bu x2 r2 hc2) ⟨ww_8_134, ww_8_131, ww_8_133, ws_110, ww_1_12, rfl, by decide, by decide⟩ rfl rfl (by decide +kernel) ⟨Nat.le_of_ble_eq_true rfl, Nat.le_of_ble_eq_true rfl⟩ hP hD hS hA hE [0, 2, 3, 4, 5, 6, 7, 8, 9, 10, 11, 12, 13, 14, 15, 16, 17] rfl (by decide) 0 rfl rfl rfl hl.1 rfl (Nat.le_of_ble_eq_true rfl) dX12_rests_10 ⟨Nat.le_of_ble_eq_true rfl, Nat.le_of_ble_eq_true rfl⟩) hP hD hS hA [0, 2, 3, 4, 5, 6, 7, 8, 9, 10, 11, 12, 13, 14, 15, 16, 17] [1] [1, 0, 2, 3, 4, 5, 6, 7, 8, 9, 10, 11, 12, 13, 14, 15, 16, 17] rfl rfl (by decide) (by decide) rfl (by decide) (fun H locs hP hD hS => ?_)
    refine lv_istore (lv' := [(5, .int r2), (4, .int r1), (0, .ref (a 0)), (1, .int x0), (2, .int x1), (3, .int x2)]) hx hb dX12_rests_13 hl (by decide) rfl (fun ls hl => ?_)
    refine lv_iload_n hx hb dX12_rests_15 rfl (lv_at hl 4 rfl) ?_
    refine lv_if_eq (tgt := 34) hx hb dX12_rests_16 (by decide) (fun c_3 => ?_) (fun c_3 => ?_)
    · rw [if_pos c_3] at hf
      refine lv_iload hx hb dX12_rests_34 (lv_at hl 0 rfl) ?_
      refine lv_iload hx hb dX12_rests_36 (lv_at hl 1 rfl) ?_
      refine lv_icmp_gt (tgt := 45) hx hb dX12_rests_38 (by decide) (fun c_4 => ?_) (fun c_4 => ?_)
      · rw [if_pos c_4] at hf
        refine lv_iconst (v := (0 : Int32)) hx hb dX12_rests_45 (by decide) ?_
        exact RET _ H _ ls 46 hf hP hD hS (by decide) dX12_rests_46
      · rw [if_neg c_4] at hf
        refine lv_iconst (v := (1 : Int32)) hx hb dX12_rests_41 (by decide) ?_
        refine lv_goto (tgt := 46) hx hb dX12_rests_42 (by decide) ?_
        exact RET _ H _ ls 46 hf hP hD hS (by decide) dX12_rests_46
    · rw [if_neg c_3] at hf
      refine lv_iload hx hb dX12_rests_19 (lv_at hl 1 rfl) ?_
      refine lv_iload hx hb dX12_rests_21 (lv_at hl 0 rfl) ?_
      refine lv_icmp_gt (tgt := 30) hx hb dX12_rests_23 (by decide) (fun c_5 => ?_) (fun c_5 => ?_)
      · rw [if_pos c_5] at hf
        refine lv_iconst (v := (0 : Int32)) hx hb dX12_rests_30 (by decide) ?_
        refine lv_goto (tgt := 46) hx hb dX12_rests_31 (by decide) ?_
        exact RET _ H _ ls 46 hf hP hD hS (by decide) dX12_rests_46
      · rw [if_neg c_5] at hf
        refine lv_iconst (v := (1 : Int32)) hx hb dX12_rests_26 (by decide) ?_
        refine lv_goto (tgt := 46) hx hb dX12_rests_27 (by decide) ?_
        exact RET _ H _ ls 46 hf hP hD hS (by decide) dX12_rests_46
  exact E0 _ _ hP hD hS

noncomputable def f_X12_doorway_b26 (y_w : WT) (bu : BusT) (z0 : MOT) : Option (Int32 × MOT) := (f_X12_refused z0 (1 : Int32)).bind fun r3 => some (r3.1, r3.2)
noncomputable def f_X12_doorway_b58 (y_w : WT) (bu : BusT) (z0 : MOT) : Option (Int32 × MOT) := (f_X12_refused z0 (5 : Int32)).bind fun r9 => some (r9.1, r9.2)
noncomputable def f_X12_doorway_b104 (y_w : WT) (bu : BusT) (k69 : Int32 → Int32 → Int32 → Int32 → MOT → Option (Int32 × MOT)) (v1 : Int32) (v2 : Int32) (v3 : Int32) (v4 : Int32) (v5 : Int32) (s0 : Int32) (z0 : MOT) : Option (Int32 × MOT) := (f_X12_rests z0 y_w bu v1 v5 s0).bind fun r16 => (if r16 = 0 then k69 v1 v2 v3 (v4 + (1 : Int32)) z0 else (f_X12_rests z0 y_w bu v2 s0 v5).bind fun r18 => (if r18 = 0 then k69 v1 v2 v3 (v4 + (1 : Int32)) z0 else k69 v1 v2 (v3 ||| ((1 : Int32) <<< (v4 &&& 31))) (v4 + (1 : Int32)) z0))
noncomputable def f_X12_doorway_b99 (y_w : WT) (bu : BusT) (k69 : Int32 → Int32 → Int32 → Int32 → MOT → Option (Int32 × MOT)) (v1 : Int32) (v2 : Int32) (v3 : Int32) (v4 : Int32) (v5 : Int32) (z0 : MOT) : Option (Int32 × MOT) := f_X12_doorway_b104 y_w bu k69 v1 v2 v3 v4 v5 (1 : Int32) z0
noncomputable def f_X12_doorway_b86 (y_w : WT) (bu : BusT) (k69 : Int32 → Int32 → Int32 → Int32 → MOT → Option (Int32 × MOT)) (v1 : Int32) (v2 : Int32) (v3 : Int32) (v4 : Int32) (s0 : Int32) (z0 : MOT) : Option (Int32 × MOT) := (if v4 = 0 then f_X12_doorway_b99 y_w bu k69 v1 v2 v3 v4 s0 z0 else (if v4 = (2 : Int32) then f_X12_doorway_b99 y_w bu k69 v1 v2 v3 v4 s0 z0 else f_X12_doorway_b104 y_w bu k69 v1 v2 v3 v4 s0 (0 : Int32) z0))
noncomputable def f_X12_doorway_b69 (y_w : WT) (bu : BusT) : Nat → Int32 → Int32 → Int32 → Int32 → MOT → Option (Int32 × MOT)
  | 0, _, _, _, _, _ => none
  | n + 1, v1, v2, v3, v4, z0 => (if (4 : Int32) ≤ v4 then (f_X12_done z0 v3).bind fun r13 => some (r13.1, r13.2) else (if (2 : Int32) ≤ v4 then f_X12_doorway_b86 y_w bu (f_X12_doorway_b69 y_w bu n) v1 v2 v3 v4 (0 : Int32) z0 else f_X12_doorway_b86 y_w bu (f_X12_doorway_b69 y_w bu n) v1 v2 v3 v4 (1 : Int32) z0))
noncomputable def f_X12_doorway_b5 (y_w : WT) (bu : BusT) (v1 : Int32) (v2 : Int32) (z0 : MOT) : Option (Int32 × MOT) := (f_X12_isRider z0 bu v1).bind fun r1 => (if r1 = 0 then f_X12_doorway_b26 y_w bu z0 else (f_X12_isRider z0 bu v2).bind fun r4 => (if r4 = 0 then f_X12_doorway_b26 y_w bu z0 else (if v1 = v2 then f_X12_doorway_b26 y_w bu z0 else if kb_in? ((0 : Int32) + v1) 56 then (if ((yW_r y_w) (((0 : Int32) + v1)).toNatClampNeg) = (101 : Int32) then if kb_in? ((0 : Int32) + v2) 56 then (if ((yW_r y_w) (((0 : Int32) + v2)).toNatClampNeg) = (101 : Int32) then f_X12_doorway_b69 y_w bu 4096 v1 v2 (0 : Int32) (0 : Int32) z0 else f_X12_doorway_b58 y_w bu z0) else none else f_X12_doorway_b58 y_w bu z0) else none)))
noncomputable def f_X12_doorway (mo : MOT) (y_w : WT) (bu : BusT) (x0 : Int32) (x1 : Int32) : Option (Int32 × MOT) := f_X12_doorway_b5 y_w bu x0 x1 (mo_set_thrown mo (0 : Int32))
set_option maxHeartbeats 4000000 in
set_option maxRecDepth 100000 in
theorem c_X12_doorway (l : Launch) (D : va_G) (dA : Nat → ClassId) (sz : Nat) (a : Nat → Nat) (wa : Nat → Nat) (ba : Nat → Nat) (q1 : Option Nat) (g2 : Nat) (g3 : Nat) (g4 : Nat) (g5 : Nat) (g7 : Nat) (g8 : Nat) (g9 : Nat) (g10 : Nat) (g11 : Nat) (g12 : Nat) (g13 : Nat) (g14 : Nat) (g15 : Nat) (g16 : Nat) (g17 : Nat) (g18 : Nat) (mo : MOT) (y_w : WT) (bu : BusT) (x0 : Int32) (x1 : Int32) (rv : Int32) (u0 : MOT) (hf : f_X12_doorway mo y_w bu x0 x1 = some (rv, u0)) : kb_Mi l yX12_doorway cX12_doorway 7 (some .int) ({ frames := 2, cells := 0, slots := 0, locals := 48 } : Room) D dA [.ref (a 0), .int x0, .int x1] sz (w_MO dA a (some (ba 0)) q1 g2 g3 g4 g5 (wa 0) g7 g8 g9 g10 g11 g12 g13 g14 g15 g16 g17 g18 mo ++ (w_W dA wa y_w ++ (w_Bus dA ba bu))) 0 0 rv (w_MO dA a (some (ba 0)) q1 g2 g3 g4 g5 (wa 0) g7 g8 g9 g10 g11 g12 g13 g14 g15 g16 g17 g18 u0 ++ (w_W dA wa y_w ++ (w_Bus dA ba bu))) := by
  refine Met.ofW (cc := cX12_doorway) (maxL := 7) (ret := (some .int)) (by decide) rfl ?_
  intro p e s m args below meth c s₁ B hml hv
  obtain ⟨rfl, hsz, hP, hK, hD0, hE⟩ := hv
  have hx := B.exec
  have hb := B.bytes
  have hr := B.returns
  have hown : s.vm.findClass RX12 = some m.cls := findClass_of_methodNamed B.named
  have hlocks := B.notSynchronized
  have hts : ∀ w ∈ kb_gw, w.before ([.ref (a 0), .int x0, .int x1] : List Value).toArray s = true := fun w hw => hK.2.1 w hw _
  subst hsz
  have hD := hD0.self (sz := s.heap.size)
  generalize hAe : va_A (w_MO dA a (some (ba 0)) q1 g2 g3 g4 g5 (wa 0) g7 g8 g9 g10 g11 g12 g13 g14 g15 g16 g17 g18 mo ++ (w_W dA wa y_w ++ (w_Bus dA ba bu))) s.heap.size = A at hD hE ⊢
  have hA : ∀ q : Nat, s.heap.size ≤ q → A q := fun q h => by rw [← hAe]; exact Or.inr h
  have hS : va_S A s.heap s.heap [] := va_S.rf
  have hl := lv_entry ([.ref (a 0), .int x0, .int x1]) (n := 7) (Nat.le_of_ble_eq_true rfl)
  rw [lg_entry_eq]
  generalize (lg_sl ([.ref (a 0), .int x0, .int x1]) ++ List.replicate (7 - (lg_sl ([.ref (a 0), .int x0, .int x1])).length) Slot.unset).toArray = ls at hl ⊢
  have hl : lv_has ls 7 [(0, .ref (a 0)), (1, .int x0), (2, .int x1)] := hl
  generalize hQ : MQ below (va_Qi (fun r (_ : Unit) => r = rv) (kb_B D A (w_MO dA a (some (ba 0)) q1 g2 g3 g4 g5 (wa 0) g7 g8 g9 g10 g11 g12 g13 g14 g15 g16 g17 g18 u0 ++ (w_W dA wa y_w ++ (w_Bus dA ba bu)))) A) ([.ref (a 0), .int x0, .int x1] : List Value).toArray s 0 0 A = Q
  show W p l e ({ frames := 2, cells := 0, slots := 0, locals := 48 } : Room) s m ([.ref (a 0), .int x0, .int x1] : List Value).toArray below meth c s.heap [] 0 0 Q (F0 m 0 ls [])
  have RET : ∀ (r2 : Int32) (w0 : MOT) (H : Heap) (locs : List Loc) (ls : Array Slot) (pc : Nat), some (r2, w0) = some (rv, u0) → va_P D vwCl (w_MO dA a (some (ba 0)) q1 g2 g3 g4 g5 (wa 0) g7 g8 g9 g10 g11 g12 g13 g14 g15 g16 g17 g18 w0 ++ (w_W dA wa y_w ++ (w_Bus dA ba bu))) H → va_D A (w_MO dA a (some (ba 0)) q1 g2 g3 g4 g5 (wa 0) g7 g8 g9 g10 g11 g12 g13 g14 g15 g16 g17 g18 w0 ++ (w_W dA wa y_w ++ (w_Bus dA ba bu))) → va_S A s.heap H locs → decode cX12_doorway pc = .ok (.ireturn, 1) → W p l e ({ frames := 2, cells := 0, slots := 0, locals := 48 } : Room) s m ([.ref (a 0), .int x0, .int x1] : List Value).toArray below meth c H locs 0 0 Q (F0 m pc ls [.int r2]) := by
    intro r2 w0 H locs ls pc hq hP hD hS hd
    cases hq
    rw [← hQ]
    exact W.iret hx hb hr (fun t ht hW => ⟨⟨_, (), rfl, rfl, by rw [ht]; exact hP, hD⟩, hS.F ht⟩) hS.2.2 hd
  have B_26 : ∀ (z0 : MOT) (H : Heap) (locs : List Loc) (ls : Array Slot), f_X12_doorway_b26 y_w bu z0 = some (rv, u0) → va_P D vwCl (w_MO dA a (some (ba 0)) q1 g2 g3 g4 g5 (wa 0) g7 g8 g9 g10 g11 g12 g13 g14 g15 g16 g17 g18 z0 ++ (w_W dA wa y_w ++ (w_Bus dA ba bu))) H → va_D A (w_MO dA a (some (ba 0)) q1 g2 g3 g4 g5 (wa 0) g7 g8 g9 g10 g11 g12 g13 g14 g15 g16 g17 g18 z0 ++ (w_W dA wa y_w ++ (w_Bus dA ba bu))) → va_S A s.heap H locs → lv_has ls 7 [(0, .ref (a 0))] → W p l e ({ frames := 2, cells := 0, slots := 0, locals := 48 } : Room) s m ([.ref (a 0), .int x0, .int x1] : List Value).toArray below meth c H locs 0 0 Q (F0 m 26 ls []) := by
    intro z0 H locs ls hf hP hD hS hl
    rw [f_X12_doorway_b26] at hf
    refine lv_aload_n hx hb dX12_doorway_26 rfl (lv_at hl 0 rfl) ?_
    refine lv_iconst (v := (1 : Int32)) hx hb dX12_doorway_27 (by decide) ?_
    obtain ⟨r3, hc3, hf⟩ := kb_bind hf
    refine kb_ci (ws2 := (w_MO dA a (some (ba 0)) q1 g2 g3 g4 g5 (wa 0) g7 g8 g9 g10 g11 g12 g13 g14 g15 g16 g17 g18 r3.2 ++ (w_W dA wa y_w ++ (w_Bus dA ba bu)))) (kb_rV (n := 1) (As := [.int (1 : Int32)]) (rest := []) hx hb hml hown hK (c_X12_refused l D dA H.size a (some (ba 0)) q1 g2 g3 g4 g5 (wa 0) g7 g8 g9 g10 g11 g12 g13 g14 g15 g16 g17 g18 z0 (1 : Int32) r3.1 r3.2 hc3) ⟨ww_6_82, ww_6_79, ww_6_81, ws_46, ww_1_12, rfl, by decide, by decide⟩ rfl rfl (by decide +kernel) ⟨Nat.le_of_ble_eq_true rfl, Nat.le_of_ble_eq_true rfl⟩ hP hD hS hA hE [0] rfl (by decide) 0 rfl rfl rfl hl.1 rfl (Nat.le_of_ble_eq_true rfl) dX12_doorway_28 ⟨Nat.le_of_ble_eq_true rfl, Nat.le_of_ble_eq_true rfl⟩) hP hD hS hA [0] [1, 2, 3, 4, 5, 6, 7, 8, 9, 10, 11, 12, 13, 14, 15, 16, 17] [17, 0, 1, 2, 3, 4, 5, 6, 7, 8, 9, 10, 11, 12, 13, 14, 15, 16] rfl rfl (by decide) (by decide) rfl (by decide) (fun H locs hP hD hS => ?_)
    exact RET _ _ H _ ls 31 hf hP hD hS dX12_doorway_31
  have B_58 : ∀ (z0 : MOT) (H : Heap) (locs : List Loc) (ls : Array Slot), f_X12_doorway_b58 y_w bu z0 = some (rv, u0) → va_P D vwCl (w_MO dA a (some (ba 0)) q1 g2 g3 g4 g5 (wa 0) g7 g8 g9 g10 g11 g12 g13 g14 g15 g16 g17 g18 z0 ++ (w_W dA wa y_w ++ (w_Bus dA ba bu))) H → va_D A (w_MO dA a (some (ba 0)) q1 g2 g3 g4 g5 (wa 0) g7 g8 g9 g10 g11 g12 g13 g14 g15 g16 g17 g18 z0 ++ (w_W dA wa y_w ++ (w_Bus dA ba bu))) → va_S A s.heap H locs → lv_has ls 7 [(0, .ref (a 0))] → W p l e ({ frames := 2, cells := 0, slots := 0, locals := 48 } : Room) s m ([.ref (a 0), .int x0, .int x1] : List Value).toArray below meth c H locs 0 0 Q (F0 m 58 ls []) := by
    intro z0 H locs ls hf hP hD hS hl
    rw [f_X12_doorway_b58] at hf
    refine lv_aload_n hx hb dX12_doorway_58 rfl (lv_at hl 0 rfl) ?_
    refine lv_iconst (v := (5 : Int32)) hx hb dX12_doorway_59 (by decide) ?_
    obtain ⟨r9, hc9, hf⟩ := kb_bind hf
    refine kb_ci (ws2 := (w_MO dA a (some (ba 0)) q1 g2 g3 g4 g5 (wa 0) g7 g8 g9 g10 g11 g12 g13 g14 g15 g16 g17 g18 r9.2 ++ (w_W dA wa y_w ++ (w_Bus dA ba bu)))) (kb_rV (n := 1) (As := [.int (5 : Int32)]) (rest := []) hx hb hml hown hK (c_X12_refused l D dA H.size a (some (ba 0)) q1 g2 g3 g4 g5 (wa 0) g7 g8 g9 g10 g11 g12 g13 g14 g15 g16 g17 g18 z0 (5 : Int32) r9.1 r9.2 hc9) ⟨ww_6_82, ww_6_79, ww_6_81, ws_46, ww_1_12, rfl, by decide, by decide⟩ rfl rfl (by decide +kernel) ⟨Nat.le_of_ble_eq_true rfl, Nat.le_of_ble_eq_true rfl⟩ hP hD hS hA hE [0] rfl (by decide) 0 rfl rfl rfl hl.1 rfl (Nat.le_of_ble_eq_true rfl) dX12_doorway_60 ⟨Nat.le_of_ble_eq_true rfl, Nat.le_of_ble_eq_true rfl⟩) hP hD hS hA [0] [1, 2, 3, 4, 5, 6, 7, 8, 9, 10, 11, 12, 13, 14, 15, 16, 17] [17, 0, 1, 2, 3, 4, 5, 6, 7, 8, 9, 10, 11, 12, 13, 14, 15, 16] rfl rfl (by decide) (by decide) rfl (by decide) (fun H locs hP hD hS => ?_)
    exact RET _ _ H _ ls 63 hf hP hD hS dX12_doorway_63
  have B_104 : ∀ (k69 : Int32 → Int32 → Int32 → Int32 → MOT → Option (Int32 × MOT)) (hk69 : ∀ (v1 : Int32) (v2 : Int32) (v3 : Int32) (v4 : Int32) (z0 : MOT) (H : Heap) (locs : List Loc) (ls : Array Slot), k69 v1 v2 v3 v4 z0 = some (rv, u0) → va_P D vwCl (w_MO dA a (some (ba 0)) q1 g2 g3 g4 g5 (wa 0) g7 g8 g9 g10 g11 g12 g13 g14 g15 g16 g17 g18 z0 ++ (w_W dA wa y_w ++ (w_Bus dA ba bu))) H → va_D A (w_MO dA a (some (ba 0)) q1 g2 g3 g4 g5 (wa 0) g7 g8 g9 g10 g11 g12 g13 g14 g15 g16 g17 g18 z0 ++ (w_W dA wa y_w ++ (w_Bus dA ba bu))) → va_S A s.heap H locs → lv_has ls 7 [(0, .ref (a 0)), (1, .int v1), (2, .int v2), (3, .int v3), (4, .int v4)] → W p l e ({ frames := 2, cells := 0, slots := 0, locals := 48 } : Room) s m ([.ref (a 0), .int x0, .int x1] : List Value).toArray below meth c H locs 0 0 Q (F0 m 69 ls [])) (v1 : Int32) (v2 : Int32) (v3 : Int32) (v4 : Int32) (v5 : Int32) (s0 : Int32) (z0 : MOT) (H : Heap) (locs : List Loc) (ls : Array Slot), f_X12_doorway_b104 y_w bu k69 v1 v2 v3 v4 v5 s0 z0 = some (rv, u0) → va_P D vwCl (w_MO dA a (some (ba 0)) q1 g2 g3 g4 g5 (wa 0) g7 g8 g9 g10 g11 g12 g13 g14 g15 g16 g17 g18 z0 ++ (w_W dA wa y_w ++ (w_Bus dA ba bu))) H → va_D A (w_MO dA a (some (ba 0)) q1 g2 g3 g4 g5 (wa 0) g7 g8 g9 g10 g11 g12 g13 g14 g15 g16 g17 g18 z0 ++ (w_W dA wa y_w ++ (w_Bus dA ba bu))) → va_S A s.heap H locs → lv_has ls 7 [(0, .ref (a 0)), (1, .int v1), (2, .int v2), (3, .int v3), (4, .int v4), (5, .int v5)] → W p l e ({ frames := 2, cells := 0, slots := 0, locals := 48 } : Room) s m ([.ref (a 0), .int x0, .int x1] : List Value).toArray below meth c H locs 0 0 Q (F0 m 104 ls [.int s0]) := by
    intro k69 hk69 v1 v2 v3 v4 v5 s0 z0 H locs ls hf hP hD hS hl
    rw [f_X12_doorway_b104] at hf
    refine lv_istore (lv' := [(6, .int s0), (0, .ref (a 0)), (1, .int v1), (2, .int v2), (3, .int v3), (4, .int v4), (5, .int v5)]) hx hb dX12_doorway_104 hl (by decide) rfl (fun ls hl => ?_)
    refine lv_aload_n hx hb dX12_doorway_106 rfl (lv_at hl 1 rfl) ?_
    refine lv_iload_n hx hb dX12_doorway_107 rfl (lv_at hl 2 rfl) ?_
    refine lv_iload hx hb dX12_doorway_108 (lv_at hl 6 rfl) ?_
    refine lv_iload hx hb dX12_doorway_110 (lv_at hl 0 rfl) ?_
    obtain ⟨r16, hc16, hf⟩ := kb_bind hf
    refine kb_ci (ws2 := (w_MO dA a (some (ba 0)) q1 g2 g3 g4 g5 (wa 0) g7 g8 g9 g10 g11 g12 g13 g14 g15 g16 g17 g18 z0 ++ (w_W dA wa y_w ++ (w_Bus dA ba bu)))) (kb_rV (n := 3) (As := [.int v1, .int v5, .int s0]) (rest := []) hx hb hml hown hK (c_X12_rests l D dA H.size a wa ba q1 g2 g3 g4 g5 g7 g8 g9 g10 g11 g12 g13 g14 g15 g16 g17 g18 z0 y_w bu v1 v5 s0 r16 hc16) ⟨ww_8_126, ww_8_123, ww_8_125, ws_108, ww_1_12, rfl, by decide, by decide⟩ rfl rfl (by decide +kernel) ⟨Nat.le_of_ble_eq_true rfl, Nat.le_of_ble_eq_true rfl⟩ hP hD hS hA hE [0, 1, 2, 3, 4, 5, 6, 7, 8, 9, 10, 11, 12, 13, 14, 15, 16, 17] rfl (by decide) 0 rfl rfl rfl hl.1 rfl (Nat.le_of_ble_eq_true rfl) dX12_doorway_112 ⟨Nat.le_of_ble_eq_true rfl, Nat.le_of_ble_eq_true rfl⟩) hP hD hS hA [0, 1, 2, 3, 4, 5, 6, 7, 8, 9, 10, 11, 12, 13, 14, 15, 16, 17] [] [0, 1, 2, 3, 4, 5, 6, 7, 8, 9, 10, 11, 12, 13, 14, 15, 16, 17] rfl rfl (by decide) (by decide) rfl (by decide) (fun H locs hP hD hS => ?_)
    refine lv_if_eq (tgt := 137) hx hb dX12_doorway_115 (by decide) (fun c_17 => ?_) (fun c_17 => ?_)
    · rw [if_pos c_17] at hf
      refine lv_iinc (v := (v4 + (1 : Int32))) (lv' := [(4, .int (v4 + (1 : Int32))), (6, .int s0), (0, .ref (a 0)), (1, .int v1), (2, .int v2), (3, .int v3), (5, .int v5)]) hx hb dX12_doorway_137 hl (k := 5) rfl (by rfl) (by decide) rfl (fun ls hl => ?_)
      refine lv_goto (tgt := 69) hx hb dX12_doorway_140 (by decide) ?_
      exact hk69 _ _ _ _ _ _ _ _ hf hP hD hS (lv_sub hl [2, 3, 4, 5, 0] rfl)
    · rw [if_neg c_17] at hf
      refine lv_aload_n hx hb dX12_doorway_118 rfl (lv_at hl 1 rfl) ?_
      refine lv_iload_n hx hb dX12_doorway_119 rfl (lv_at hl 3 rfl) ?_
      refine lv_iload hx hb dX12_doorway_120 (lv_at hl 0 rfl) ?_
      refine lv_iload hx hb dX12_doorway_122 (lv_at hl 6 rfl) ?_
      obtain ⟨r18, hc18, hf⟩ := kb_bind hf
      refine kb_ci (ws2 := (w_MO dA a (some (ba 0)) q1 g2 g3 g4 g5 (wa 0) g7 g8 g9 g10 g11 g12 g13 g14 g15 g16 g17 g18 z0 ++ (w_W dA wa y_w ++ (w_Bus dA ba bu)))) (kb_rV (n := 3) (As := [.int v2, .int s0, .int v5]) (rest := []) hx hb hml hown hK (c_X12_rests l D dA H.size a wa ba q1 g2 g3 g4 g5 g7 g8 g9 g10 g11 g12 g13 g14 g15 g16 g17 g18 z0 y_w bu v2 s0 v5 r18 hc18) ⟨ww_8_126, ww_8_123, ww_8_125, ws_108, ww_1_12, rfl, by decide, by decide⟩ rfl rfl (by decide +kernel) ⟨Nat.le_of_ble_eq_true rfl, Nat.le_of_ble_eq_true rfl⟩ hP hD hS hA hE [0, 1, 2, 3, 4, 5, 6, 7, 8, 9, 10, 11, 12, 13, 14, 15, 16, 17] rfl (by decide) 0 rfl rfl rfl hl.1 rfl (Nat.le_of_ble_eq_true rfl) dX12_doorway_124 ⟨Nat.le_of_ble_eq_true rfl, Nat.le_of_ble_eq_true rfl⟩) hP hD hS hA [0, 1, 2, 3, 4, 5, 6, 7, 8, 9, 10, 11, 12, 13, 14, 15, 16, 17] [] [0, 1, 2, 3, 4, 5, 6, 7, 8, 9, 10, 11, 12, 13, 14, 15, 16, 17] rfl rfl (by decide) (by decide) rfl (by decide) (fun H locs hP hD hS => ?_)
      refine lv_if_eq (tgt := 137) hx hb dX12_doorway_127 (by decide) (fun c_19 => ?_) (fun c_19 => ?_)
      · rw [if_pos c_19] at hf
        refine lv_iinc (v := (v4 + (1 : Int32))) (lv' := [(4, .int (v4 + (1 : Int32))), (6, .int s0), (0, .ref (a 0)), (1, .int v1), (2, .int v2), (3, .int v3), (5, .int v5)]) hx hb dX12_doorway_137 hl (k := 5) rfl (by rfl) (by decide) rfl (fun ls hl => ?_)
        refine lv_goto (tgt := 69) hx hb dX12_doorway_140 (by decide) ?_
        exact hk69 _ _ _ _ _ _ _ _ hf hP hD hS (lv_sub hl [2, 3, 4, 5, 0] rfl)
      · rw [if_neg c_19] at hf
        refine lv_iload_n hx hb dX12_doorway_130 rfl (lv_at hl 4 rfl) ?_
        refine lv_iconst (v := (1 : Int32)) hx hb dX12_doorway_131 (by decide) ?_
        refine lv_iload hx hb dX12_doorway_132 (lv_at hl 5 rfl) ?_
        refine lv_ishl hx hb dX12_doorway_134 ?_
        refine lv_ior hx hb dX12_doorway_135 ?_
        refine lv_istore_n (lv' := [(3, .int (v3 ||| ((1 : Int32) <<< (v4 &&& 31)))), (6, .int s0), (0, .ref (a 0)), (1, .int v1), (2, .int v2), (4, .int v4), (5, .int v5)]) hx hb dX12_doorway_136 rfl hl (by decide) rfl (fun ls hl => ?_)
        refine lv_iinc (v := (v4 + (1 : Int32))) (lv' := [(4, .int (v4 + (1 : Int32))), (3, .int (v3 ||| ((1 : Int32) <<< (v4 &&& 31)))), (6, .int s0), (0, .ref (a 0)), (1, .int v1), (2, .int v2), (5, .int v5)]) hx hb dX12_doorway_137 hl (k := 5) rfl (by rfl) (by decide) rfl (fun ls hl => ?_)
        refine lv_goto (tgt := 69) hx hb dX12_doorway_140 (by decide) ?_
        exact hk69 _ _ _ _ _ _ _ _ hf hP hD hS (lv_sub hl [3, 4, 5, 1, 0] rfl)
  have B_99 : ∀ (k69 : Int32 → Int32 → Int32 → Int32 → MOT → Option (Int32 × MOT)) (hk69 : ∀ (v1 : Int32) (v2 : Int32) (v3 : Int32) (v4 : Int32) (z0 : MOT) (H : Heap) (locs : List Loc) (ls : Array Slot), k69 v1 v2 v3 v4 z0 = some (rv, u0) → va_P D vwCl (w_MO dA a (some (ba 0)) q1 g2 g3 g4 g5 (wa 0) g7 g8 g9 g10 g11 g12 g13 g14 g15 g16 g17 g18 z0 ++ (w_W dA wa y_w ++ (w_Bus dA ba bu))) H → va_D A (w_MO dA a (some (ba 0)) q1 g2 g3 g4 g5 (wa 0) g7 g8 g9 g10 g11 g12 g13 g14 g15 g16 g17 g18 z0 ++ (w_W dA wa y_w ++ (w_Bus dA ba bu))) → va_S A s.heap H locs → lv_has ls 7 [(0, .ref (a 0)), (1, .int v1), (2, .int v2), (3, .int v3), (4, .int v4)] → W p l e ({ frames := 2, cells := 0, slots := 0, locals := 48 } : Room) s m ([.ref (a 0), .int x0, .int x1] : List Value).toArray below meth c H locs 0 0 Q (F0 m 69 ls [])) (v1 : Int32) (v2 : Int32) (v3 : Int32) (v4 : Int32) (v5 : Int32) (z0 : MOT) (H : Heap) (locs : List Loc) (ls : Array Slot), f_X12_doorway_b99 y_w bu k69 v1 v2 v3 v4 v5 z0 = some (rv, u0) → va_P D vwCl (w_MO dA a (some (ba 0)) q1 g2 g3 g4 g5 (wa 0) g7 g8 g9 g10 g11 g12 g13 g14 g15 g16 g17 g18 z0 ++ (w_W dA wa y_w ++ (w_Bus dA ba bu))) H → va_D A (w_MO dA a (some (ba 0)) q1 g2 g3 g4 g5 (wa 0) g7 g8 g9 g10 g11 g12 g13 g14 g15 g16 g17 g18 z0 ++ (w_W dA wa y_w ++ (w_Bus dA ba bu))) → va_S A s.heap H locs → lv_has ls 7 [(0, .ref (a 0)), (1, .int v1), (2, .int v2), (3, .int v3), (4, .int v4), (5, .int v5)] → W p l e ({ frames := 2, cells := 0, slots := 0, locals := 48 } : Room) s m ([.ref (a 0), .int x0, .int x1] : List Value).toArray below meth c H locs 0 0 Q (F0 m 99 ls []) := by
    intro k69 hk69 v1 v2 v3 v4 v5 z0 H locs ls hf hP hD hS hl
    rw [f_X12_doorway_b99] at hf
    refine lv_iconst (v := (1 : Int32)) hx hb dX12_doorway_99 (by decide) ?_
    refine lv_goto (tgt := 104) hx hb dX12_doorway_100 (by decide) ?_
    exact B_104 k69 hk69 _ _ _ _ _ _ _ _ _ _ hf hP hD hS (lv_sub hl [0, 1, 2, 3, 4, 5] rfl)
  have B_86 : ∀ (k69 : Int32 → Int32 → Int32 → Int32 → MOT → Option (Int32 × MOT)) (hk69 : ∀ (v1 : Int32) (v2 : Int32) (v3 : Int32) (v4 : Int32) (z0 : MOT) (H : Heap) (locs : List Loc) (ls : Array Slot), k69 v1 v2 v3 v4 z0 = some (rv, u0) → va_P D vwCl (w_MO dA a (some (ba 0)) q1 g2 g3 g4 g5 (wa 0) g7 g8 g9 g10 g11 g12 g13 g14 g15 g16 g17 g18 z0 ++ (w_W dA wa y_w ++ (w_Bus dA ba bu))) H → va_D A (w_MO dA a (some (ba 0)) q1 g2 g3 g4 g5 (wa 0) g7 g8 g9 g10 g11 g12 g13 g14 g15 g16 g17 g18 z0 ++ (w_W dA wa y_w ++ (w_Bus dA ba bu))) → va_S A s.heap H locs → lv_has ls 7 [(0, .ref (a 0)), (1, .int v1), (2, .int v2), (3, .int v3), (4, .int v4)] → W p l e ({ frames := 2, cells := 0, slots := 0, locals := 48 } : Room) s m ([.ref (a 0), .int x0, .int x1] : List Value).toArray below meth c H locs 0 0 Q (F0 m 69 ls [])) (v1 : Int32) (v2 : Int32) (v3 : Int32) (v4 : Int32) (s0 : Int32) (z0 : MOT) (H : Heap) (locs : List Loc) (ls : Array Slot), f_X12_doorway_b86 y_w bu k69 v1 v2 v3 v4 s0 z0 = some (rv, u0) → va_P D vwCl (w_MO dA a (some (ba 0)) q1 g2 g3 g4 g5 (wa 0) g7 g8 g9 g10 g11 g12 g13 g14 g15 g16 g17 g18 z0 ++ (w_W dA wa y_w ++ (w_Bus dA ba bu))) H → va_D A (w_MO dA a (some (ba 0)) q1 g2 g3 g4 g5 (wa 0) g7 g8 g9 g10 g11 g12 g13 g14 g15 g16 g17 g18 z0 ++ (w_W dA wa y_w ++ (w_Bus dA ba bu))) → va_S A s.heap H locs → lv_has ls 7 [(0, .ref (a 0)), (1, .int v1), (2, .int v2), (3, .int v3), (4, .int v4)] → W p l e ({ frames := 2, cells := 0, slots := 0, locals := 48 } : Room) s m ([.ref (a 0), .int x0, .int x1] : List Value).toArray below meth c H locs 0 0 Q (F0 m 86 ls [.int s0]) := by
    intro k69 hk69 v1 v2 v3 v4 s0 z0 H locs ls hf hP hD hS hl
    rw [f_X12_doorway_b86] at hf
    refine lv_istore (lv' := [(5, .int s0), (0, .ref (a 0)), (1, .int v1), (2, .int v2), (3, .int v3), (4, .int v4)]) hx hb dX12_doorway_86 hl (by decide) rfl (fun ls hl => ?_)
    refine lv_iload hx hb dX12_doorway_88 (lv_at hl 5 rfl) ?_
    refine lv_if_eq (tgt := 99) hx hb dX12_doorway_90 (by decide) (fun c_15 => ?_) (fun c_15 => ?_)
    · rw [if_pos c_15] at hf
      exact B_99 k69 hk69 _ _ _ _ _ _ _ _ _ hf hP hD hS (lv_sub hl [1, 2, 3, 4, 5, 0] rfl)
    · rw [if_neg c_15] at hf
      refine lv_iload hx hb dX12_doorway_93 (lv_at hl 5 rfl) ?_
      refine lv_iconst (v := (2 : Int32)) hx hb dX12_doorway_95 (by decide) ?_
      refine lv_icmp_ne (tgt := 103) hx hb dX12_doorway_96 (by decide) (fun c_20 => ?_) (fun c_20 => ?_)
      · rw [if_neg c_20] at hf
        refine lv_iconst (v := (0 : Int32)) hx hb dX12_doorway_103 (by decide) ?_
        exact B_104 k69 hk69 _ _ _ _ _ _ _ _ _ _ hf hP hD hS (lv_sub hl [1, 2, 3, 4, 5, 0] rfl)
      · rw [if_pos c_20] at hf
        exact B_99 k69 hk69 _ _ _ _ _ _ _ _ _ hf hP hD hS (lv_sub hl [1, 2, 3, 4, 5, 0] rfl)
  have B_69 : ∀ (n : Nat) (v1 : Int32) (v2 : Int32) (v3 : Int32) (v4 : Int32) (z0 : MOT) (H : Heap) (locs : List Loc) (ls : Array Slot), f_X12_doorway_b69 y_w bu n v1 v2 v3 v4 z0 = some (rv, u0) → va_P D vwCl (w_MO dA a (some (ba 0)) q1 g2 g3 g4 g5 (wa 0) g7 g8 g9 g10 g11 g12 g13 g14 g15 g16 g17 g18 z0 ++ (w_W dA wa y_w ++ (w_Bus dA ba bu))) H → va_D A (w_MO dA a (some (ba 0)) q1 g2 g3 g4 g5 (wa 0) g7 g8 g9 g10 g11 g12 g13 g14 g15 g16 g17 g18 z0 ++ (w_W dA wa y_w ++ (w_Bus dA ba bu))) → va_S A s.heap H locs → lv_has ls 7 [(0, .ref (a 0)), (1, .int v1), (2, .int v2), (3, .int v3), (4, .int v4)] → W p l e ({ frames := 2, cells := 0, slots := 0, locals := 48 } : Room) s m ([.ref (a 0), .int x0, .int x1] : List Value).toArray below meth c H locs 0 0 Q (F0 m 69 ls []) := by
    intro n
    induction n with
    | zero =>
      intro v1 v2 v3 v4 z0 H locs ls hf
      exact absurd hf (by simp [f_X12_doorway_b69])
    | succ n ih =>
      intro v1 v2 v3 v4 z0 H locs ls hf hP hD hS hl
      rw [f_X12_doorway_b69] at hf
      refine lv_iload hx hb dX12_doorway_69 (lv_at hl 4 rfl) ?_
      refine lv_iconst (v := (4 : Int32)) hx hb dX12_doorway_71 (by decide) ?_
      refine lv_icmp_ge (tgt := 143) hx hb dX12_doorway_72 (by decide) (fun c_12 => ?_) (fun c_12 => ?_)
      · rw [if_pos c_12] at hf
        refine lv_aload_n hx hb dX12_doorway_143 rfl (lv_at hl 0 rfl) ?_
        refine lv_iload_n hx hb dX12_doorway_144 rfl (lv_at hl 3 rfl) ?_
        obtain ⟨r13, hc13, hf⟩ := kb_bind hf
        refine kb_ci (ws2 := (w_MO dA a (some (ba 0)) q1 g2 g3 g4 g5 (wa 0) g7 g8 g9 g10 g11 g12 g13 g14 g15 g16 g17 g18 r13.2 ++ (w_W dA wa y_w ++ (w_Bus dA ba bu)))) (kb_rV (n := 1) (As := [.int v3]) (rest := []) hx hb hml hown hK (c_X12_done l D dA H.size a (some (ba 0)) q1 g2 g3 g4 g5 (wa 0) g7 g8 g9 g10 g11 g12 g13 g14 g15 g16 g17 g18 z0 v3 r13.1 r13.2 hc13) ⟨ww_7_100, ww_7_97, ww_7_99, ws_71, ww_1_12, rfl, by decide, by decide⟩ rfl rfl (by decide +kernel) ⟨Nat.le_of_ble_eq_true rfl, Nat.le_of_ble_eq_true rfl⟩ hP hD hS hA hE [0] rfl (by decide) 0 rfl rfl rfl hl.1 rfl (Nat.le_of_ble_eq_true rfl) dX12_doorway_145 ⟨Nat.le_of_ble_eq_true rfl, Nat.le_of_ble_eq_true rfl⟩) hP hD hS hA [0] [1, 2, 3, 4, 5, 6, 7, 8, 9, 10, 11, 12, 13, 14, 15, 16, 17] [17, 0, 1, 2, 3, 4, 5, 6, 7, 8, 9, 10, 11, 12, 13, 14, 15, 16] rfl rfl (by decide) (by decide) rfl (by decide) (fun H locs hP hD hS => ?_)
        exact RET _ _ H _ ls 148 hf hP hD hS dX12_doorway_148
      · rw [if_neg c_12] at hf
        refine lv_iload hx hb dX12_doorway_75 (lv_at hl 4 rfl) ?_
        refine lv_iconst (v := (2 : Int32)) hx hb dX12_doorway_77 (by decide) ?_
        refine lv_icmp_ge (tgt := 85) hx hb dX12_doorway_78 (by decide) (fun c_14 => ?_) (fun c_14 => ?_)
        · rw [if_pos c_14] at hf
          refine lv_iconst (v := (0 : Int32)) hx hb dX12_doorway_85 (by decide) ?_
          exact B_86 (f_X12_doorway_b69 y_w bu n) ih _ _ _ _ _ _ _ _ _ hf hP hD hS (lv_sub hl [0, 1, 2, 3, 4] rfl)
        · rw [if_neg c_14] at hf
          refine lv_iconst (v := (1 : Int32)) hx hb dX12_doorway_81 (by decide) ?_
          refine lv_goto (tgt := 86) hx hb dX12_doorway_82 (by decide) ?_
          exact B_86 (f_X12_doorway_b69 y_w bu n) ih _ _ _ _ _ _ _ _ _ hf hP hD hS (lv_sub hl [0, 1, 2, 3, 4] rfl)
  have B_5 : ∀ (v1 : Int32) (v2 : Int32) (z0 : MOT) (H : Heap) (locs : List Loc) (ls : Array Slot), f_X12_doorway_b5 y_w bu v1 v2 z0 = some (rv, u0) → va_P D vwCl (w_MO dA a (some (ba 0)) q1 g2 g3 g4 g5 (wa 0) g7 g8 g9 g10 g11 g12 g13 g14 g15 g16 g17 g18 z0 ++ (w_W dA wa y_w ++ (w_Bus dA ba bu))) H → va_D A (w_MO dA a (some (ba 0)) q1 g2 g3 g4 g5 (wa 0) g7 g8 g9 g10 g11 g12 g13 g14 g15 g16 g17 g18 z0 ++ (w_W dA wa y_w ++ (w_Bus dA ba bu))) → va_S A s.heap H locs → lv_has ls 7 [(0, .ref (a 0)), (1, .int v1), (2, .int v2)] → W p l e ({ frames := 2, cells := 0, slots := 0, locals := 48 } : Room) s m ([.ref (a 0), .int x0, .int x1] : List Value).toArray below meth c H locs 0 0 Q (F0 m 5 ls []) := by
    intro v1 v2 z0 H locs ls hf hP hD hS hl
    rw [f_X12_doorway_b5] at hf
    refine lv_aload_n hx hb dX12_doorway_5 rfl (lv_at hl 0 rfl) ?_
    refine lv_iload_n hx hb dX12_doorway_6 rfl (lv_at hl 1 rfl) ?_
    obtain ⟨r1, hc1, hf⟩ := kb_bind hf
    refine kb_ci (ws2 := (w_MO dA a (some (ba 0)) q1 g2 g3 g4 g5 (wa 0) g7 g8 g9 g10 g11 g12 g13 g14 g15 g16 g17 g18 z0 ++ (w_W dA wa y_w ++ (w_Bus dA ba bu)))) (kb_rV (n := 1) (As := [.int v1]) (rest := []) hx hb hml hown hK (c_X12_isRider l D dA H.size a ba q1 g2 g3 g4 g5 (wa 0) g7 g8 g9 g10 g11 g12 g13 g14 g15 g16 g17 g18 z0 bu v1 r1 hc1) ⟨ww_8_5, ww_8_2, ww_8_4, ws_95, ww_1_12, rfl, by decide, by decide⟩ rfl rfl (by decide +kernel) ⟨Nat.le_of_ble_eq_true rfl, Nat.le_of_ble_eq_true rfl⟩ hP hD hS hA hE [0, 2, 3, 4, 5, 6, 7, 8, 9, 10, 11, 12, 13, 14, 15, 16, 17] rfl (by decide) 0 rfl rfl rfl hl.1 rfl (Nat.le_of_ble_eq_true rfl) dX12_doorway_7 ⟨Nat.le_of_ble_eq_true rfl, Nat.le_of_ble_eq_true rfl⟩) hP hD hS hA [0, 2, 3, 4, 5, 6, 7, 8, 9, 10, 11, 12, 13, 14, 15, 16, 17] [1] [1, 0, 2, 3, 4, 5, 6, 7, 8, 9, 10, 11, 12, 13, 14, 15, 16, 17] rfl rfl (by decide) (by decide) rfl (by decide) (fun H locs hP hD hS => ?_)
    refine lv_if_eq (tgt := 26) hx hb dX12_doorway_10 (by decide) (fun c_2 => ?_) (fun c_2 => ?_)
    · rw [if_pos c_2] at hf
      exact B_26 _ _ _ _ hf hP hD hS (lv_sub hl [0] rfl)
    · rw [if_neg c_2] at hf
      refine lv_aload_n hx hb dX12_doorway_13 rfl (lv_at hl 0 rfl) ?_
      refine lv_iload_n hx hb dX12_doorway_14 rfl (lv_at hl 2 rfl) ?_
      obtain ⟨r4, hc4, hf⟩ := kb_bind hf
      refine kb_ci (ws2 := (w_MO dA a (some (ba 0)) q1 g2 g3 g4 g5 (wa 0) g7 g8 g9 g10 g11 g12 g13 g14 g15 g16 g17 g18 z0 ++ (w_W dA wa y_w ++ (w_Bus dA ba bu)))) (kb_rV (n := 1) (As := [.int v2]) (rest := []) hx hb hml hown hK (c_X12_isRider l D dA H.size a ba q1 g2 g3 g4 g5 (wa 0) g7 g8 g9 g10 g11 g12 g13 g14 g15 g16 g17 g18 z0 bu v2 r4 hc4) ⟨ww_8_5, ww_8_2, ww_8_4, ws_95, ww_1_12, rfl, by decide, by decide⟩ rfl rfl (by decide +kernel) ⟨Nat.le_of_ble_eq_true rfl, Nat.le_of_ble_eq_true rfl⟩ hP hD hS hA hE [0, 2, 3, 4, 5, 6, 7, 8, 9, 10, 11, 12, 13, 14, 15, 16, 17] rfl (by decide) 0 rfl rfl rfl hl.1 rfl (Nat.le_of_ble_eq_true rfl) dX12_doorway_15 ⟨Nat.le_of_ble_eq_true rfl, Nat.le_of_ble_eq_true rfl⟩) hP hD hS hA [0, 2, 3, 4, 5, 6, 7, 8, 9, 10, 11, 12, 13, 14, 15, 16, 17] [1] [1, 0, 2, 3, 4, 5, 6, 7, 8, 9, 10, 11, 12, 13, 14, 15, 16, 17] rfl rfl (by decide) (by decide) rfl (by decide) (fun H locs hP hD hS => ?_)
      refine lv_if_eq (tgt := 26) hx hb dX12_doorway_18 (by decide) (fun c_5 => ?_) (fun c_5 => ?_)
      · rw [if_pos c_5] at hf
        exact B_26 _ _ _ _ hf hP hD hS (lv_sub hl [0] rfl)
      · rw [if_neg c_5] at hf
        refine lv_iload_n hx hb dX12_doorway_21 rfl (lv_at hl 1 rfl) ?_
        refine lv_iload_n hx hb dX12_doorway_22 rfl (lv_at hl 2 rfl) ?_
        refine lv_icmp_ne (tgt := 32) hx hb dX12_doorway_23 (by decide) (fun c_6 => ?_) (fun c_6 => ?_)
        · rw [if_neg c_6] at hf
          refine lv_aload_n hx hb dX12_doorway_32 rfl (lv_at hl 0 rfl) ?_
          refine va_get (D := D) (ci := 12) (v := .ref (wa 0)) (C := RX12) (T := TX12) (N := 35) hx hb hts kb_inX12 hown hK.1 hP 0 rfl rfl 19 (by decide) (hK.2.w ww_5_219 rfl _) (fun _ h9 => h9) rfl dX12_doorway_33 ?_
          refine lv_iconst (v := (0 : Int32)) hx hb dX12_doorway_36 (by decide) ?_
          refine lv_iload_n hx hb dX12_doorway_37 rfl (lv_at hl 1 rfl) ?_
          refine lv_iadd hx hb dX12_doorway_38 ?_
          obtain ⟨h_7, hf⟩ := kb_if hf
          refine va_iald (D := D) hx hb hK.1 hP 1 0 rfl rfl h_7 dX12_doorway_39 ?_
          refine lv_bipush (v := (101 : Int32)) hx hb dX12_doorway_40 (by decide) ?_
          refine lv_icmp_ne (tgt := 58) hx hb dX12_doorway_42 (by decide) (fun c_8 => ?_) (fun c_8 => ?_)
          · rw [if_neg c_8] at hf
            exact B_58 _ _ _ _ hf hP hD hS (lv_sub hl [0] rfl)
          · rw [if_pos c_8] at hf
            refine lv_aload_n hx hb dX12_doorway_45 rfl (lv_at hl 0 rfl) ?_
            refine va_get (D := D) (ci := 12) (v := .ref (wa 0)) (C := RX12) (T := TX12) (N := 35) hx hb hts kb_inX12 hown hK.1 hP 0 rfl rfl 19 (by decide) (hK.2.w ww_5_219 rfl _) (fun _ h9 => h9) rfl dX12_doorway_46 ?_
            refine lv_iconst (v := (0 : Int32)) hx hb dX12_doorway_49 (by decide) ?_
            refine lv_iload_n hx hb dX12_doorway_50 rfl (lv_at hl 2 rfl) ?_
            refine lv_iadd hx hb dX12_doorway_51 ?_
            obtain ⟨h_10, hf⟩ := kb_if hf
            refine va_iald (D := D) hx hb hK.1 hP 1 0 rfl rfl h_10 dX12_doorway_52 ?_
            refine lv_bipush (v := (101 : Int32)) hx hb dX12_doorway_53 (by decide) ?_
            refine lv_icmp_eq (tgt := 64) hx hb dX12_doorway_55 (by decide) (fun c_11 => ?_) (fun c_11 => ?_)
            · rw [if_pos c_11] at hf
              refine lv_iconst (v := (0 : Int32)) hx hb dX12_doorway_64 (by decide) ?_
              refine lv_istore_n (lv' := [(3, .int (0 : Int32)), (0, .ref (a 0)), (1, .int v1), (2, .int v2)]) hx hb dX12_doorway_65 rfl hl (by decide) rfl (fun ls hl => ?_)
              refine lv_iconst (v := (0 : Int32)) hx hb dX12_doorway_66 (by decide) ?_
              refine lv_istore (lv' := [(4, .int (0 : Int32)), (3, .int (0 : Int32)), (0, .ref (a 0)), (1, .int v1), (2, .int v2)]) hx hb dX12_doorway_67 hl (by decide) rfl (fun ls hl => ?_)
              exact B_69 4096 _ _ _ _ _ _ _ _ hf hP hD hS (lv_sub hl [2, 3, 4, 1, 0] rfl)
            · rw [if_neg c_11] at hf
              exact B_58 _ _ _ _ hf hP hD hS (lv_sub hl [0] rfl)
        · rw [if_pos c_6] at hf
          exact B_26 _ _ _ _ hf hP hD hS (lv_sub hl [0] rfl)
  have E0 : ∀ (H : Heap) (locs : List Loc), va_P D vwCl (w_MO dA a (some (ba 0)) q1 g2 g3 g4 g5 (wa 0) g7 g8 g9 g10 g11 g12 g13 g14 g15 g16 g17 g18 mo ++ (w_W dA wa y_w ++ (w_Bus dA ba bu))) H → va_D A (w_MO dA a (some (ba 0)) q1 g2 g3 g4 g5 (wa 0) g7 g8 g9 g10 g11 g12 g13 g14 g15 g16 g17 g18 mo ++ (w_W dA wa y_w ++ (w_Bus dA ba bu))) → va_S A s.heap H locs → W p l e ({ frames := 2, cells := 0, slots := 0, locals := 48 } : Room) s m ([.ref (a 0), .int x0, .int x1] : List Value).toArray below meth c H locs 0 0 Q (F0 m 0 ls []) := by
    intro H locs hP hD hS
    rw [f_X12_doorway] at hf
    refine lv_aload_n hx hb dX12_doorway_0 rfl (lv_at hl 0 rfl) ?_
    refine lv_iconst (v := (0 : Int32)) hx hb dX12_doorway_1 (by decide) ?_
    refine va_put (D := D) (ci := 12) (v := .int (0 : Int32)) (ty := .int) (C := RX12) (T := TX12) (N := 35) hx hb hts kb_inX12 tyX12 tyX12_ok nmX12 hown hK.1 hP hD hS 0 rfl rfl 0 (by decide) (hK.2.w ww_5_200 rfl _) (fun _ h9 => h9) rfl (by decide +kernel) rfl rfl (Nat.le_of_ble_eq_true rfl) dX12_doorway_2 (fun H locs hP hD hS => ?_)
    have hP : va_P D vwCl (w_MO dA a (some (ba 0)) q1 g2 g3 g4 g5 (wa 0) g7 g8 g9 g10 g11 g12 g13 g14 g15 g16 g17 g18 (mo_set_thrown mo (0 : Int32)) ++ (w_W dA wa y_w ++ (w_Bus dA ba bu))) H := hP
    have hD : va_D A (w_MO dA a (some (ba 0)) q1 g2 g3 g4 g5 (wa 0) g7 g8 g9 g10 g11 g12 g13 g14 g15 g16 g17 g18 (mo_set_thrown mo (0 : Int32)) ++ (w_W dA wa y_w ++ (w_Bus dA ba bu))) := hD
    exact B_5 _ _ _ _ _ _ hf hP hD hS (lv_sub hl [0, 1, 2] rfl)
  exact E0 _ _ hP hD hS

noncomputable def f_X12_film_b38 (bu : BusT) (z0 : MOT) (z1 : FTakenT) (z2 : FSeatT) : Option (Int32 × MOT × FTakenT × FSeatT) := (f_X12_refused z0 (2 : Int32)).bind fun r5 => some (r5.1, r5.2, z1, z2)
noncomputable def f_X12_film_b89 (bu : BusT) (z0 : MOT) (z1 : FTakenT) (z2 : FSeatT) : Option (Int32 × MOT × FTakenT × FSeatT) := (f_X12_done z0 (mo_films z0)).bind fun r11 => some (r11.1, r11.2, z1, z2)
noncomputable def f_X12_film_b79 (bu : BusT) (z0 : MOT) (z1 : FTakenT) (z2 : FSeatT) : Option (Int32 × MOT × FTakenT × FSeatT) := f_X12_film_b89 bu (mo_set_films z0 ((mo_films z0) + (1 : Int32))) z1 z2
noncomputable def f_X12_film_b69 (bu : BusT) (v2 : Int32) (z0 : MOT) (z1 : FTakenT) (z2 : FSeatT) : Option (Int32 × MOT × FTakenT × FSeatT) := if kb_in? (mo_films z0) 12 then f_X12_film_b79 bu z0 z1 (yFSeat_set_r z2 (upd (yFSeat_r z2) ((mo_films z0)).toNatClampNeg v2)) else none
noncomputable def f_X12_film_b5 (bu : BusT) (v1 : Int32) (v2 : Int32) (z0 : MOT) (z1 : FTakenT) (z2 : FSeatT) : Option (Int32 × MOT × FTakenT × FSeatT) := (f_X12_isSeat z0 bu v2).bind fun r1 => (if r1 = 0 then (f_X12_refused z0 (1 : Int32)).bind fun r13 => some (r13.1, r13.2, z1, z2) else (f_X12_allSeats z0 bu).bind fun r3 => (if (v1 &&& (r3 ^^^ (-1 : Int32))) = 0 then (f_X12_has v1 v2).bind fun r6 => (if r6 = 0 then (if (mo_films z0) = (12 : Int32) then (f_X12_refused z0 (3 : Int32)).bind fun r12 => some (r12.1, r12.2, z1, z2) else if kb_in? (mo_films z0) 12 then f_X12_film_b69 bu v2 z0 (yFTaken_set_r z1 (upd (yFTaken_r z1) ((mo_films z0)).toNatClampNeg v1)) z2 else none) else f_X12_film_b38 bu z0 z1 z2) else f_X12_film_b38 bu z0 z1 z2))
noncomputable def f_X12_film (mo : MOT) (y_filmTaken : FTakenT) (y_filmSeat : FSeatT) (bu : BusT) (x0 : Int32) (x1 : Int32) : Option (Int32 × MOT × FTakenT × FSeatT) := f_X12_film_b5 bu x0 x1 (mo_set_thrown mo (0 : Int32)) y_filmTaken y_filmSeat
set_option maxHeartbeats 4000000 in
set_option maxRecDepth 100000 in
theorem c_X12_film (l : Launch) (D : va_G) (dA : Nat → ClassId) (sz : Nat) (a : Nat → Nat) (xa : Nat → Nat) (sa : Nat → Nat) (ba : Nat → Nat) (q1 : Option Nat) (g2 : Nat) (g3 : Nat) (g4 : Nat) (g5 : Nat) (g6 : Nat) (g7 : Nat) (g8 : Nat) (g9 : Nat) (g10 : Nat) (g11 : Nat) (g12 : Nat) (g13 : Nat) (g14 : Nat) (g17 : Nat) (g18 : Nat) (mo : MOT) (y_filmTaken : FTakenT) (y_filmSeat : FSeatT) (bu : BusT) (x0 : Int32) (x1 : Int32) (rv : Int32) (u0 : MOT) (u1 : FTakenT) (u2 : FSeatT) (hf : f_X12_film mo y_filmTaken y_filmSeat bu x0 x1 = some (rv, u0, u1, u2)) : kb_Mi l yX12_film cX12_film 3 (some .int) ({ frames := 3, cells := 0, slots := 0, locals := 64 } : Room) D dA [.ref (a 0), .int x0, .int x1] sz (w_MO dA a (some (ba 0)) q1 g2 g3 g4 g5 g6 g7 g8 g9 g10 g11 g12 g13 g14 (xa 0) (sa 0) g17 g18 mo ++ (w_FTaken dA xa y_filmTaken ++ (w_FSeat dA sa y_filmSeat ++ (w_Bus dA ba bu)))) 0 0 rv (w_MO dA a (some (ba 0)) q1 g2 g3 g4 g5 g6 g7 g8 g9 g10 g11 g12 g13 g14 (xa 0) (sa 0) g17 g18 u0 ++ (w_FTaken dA xa u1 ++ (w_FSeat dA sa u2 ++ (w_Bus dA ba bu)))) := by
  refine Met.ofW (cc := cX12_film) (maxL := 3) (ret := (some .int)) (by decide) rfl ?_
  intro p e s m args below meth c s₁ B hml hv
  obtain ⟨rfl, hsz, hP, hK, hD0, hE⟩ := hv
  have hx := B.exec
  have hb := B.bytes
  have hr := B.returns
  have hown : s.vm.findClass RX12 = some m.cls := findClass_of_methodNamed B.named
  have hlocks := B.notSynchronized
  have hts : ∀ w ∈ kb_gw, w.before ([.ref (a 0), .int x0, .int x1] : List Value).toArray s = true := fun w hw => hK.2.1 w hw _
  subst hsz
  have hD := hD0.self (sz := s.heap.size)
  generalize hAe : va_A (w_MO dA a (some (ba 0)) q1 g2 g3 g4 g5 g6 g7 g8 g9 g10 g11 g12 g13 g14 (xa 0) (sa 0) g17 g18 mo ++ (w_FTaken dA xa y_filmTaken ++ (w_FSeat dA sa y_filmSeat ++ (w_Bus dA ba bu)))) s.heap.size = A at hD hE ⊢
  have hA : ∀ q : Nat, s.heap.size ≤ q → A q := fun q h => by rw [← hAe]; exact Or.inr h
  have hS : va_S A s.heap s.heap [] := va_S.rf
  have hl := lv_entry ([.ref (a 0), .int x0, .int x1]) (n := 3) (Nat.le_of_ble_eq_true rfl)
  rw [lg_entry_eq]
  generalize (lg_sl ([.ref (a 0), .int x0, .int x1]) ++ List.replicate (3 - (lg_sl ([.ref (a 0), .int x0, .int x1])).length) Slot.unset).toArray = ls at hl ⊢
  have hl : lv_has ls 3 [(0, .ref (a 0)), (1, .int x0), (2, .int x1)] := hl
  generalize hQ : MQ below (va_Qi (fun r (_ : Unit) => r = rv) (kb_B D A (w_MO dA a (some (ba 0)) q1 g2 g3 g4 g5 g6 g7 g8 g9 g10 g11 g12 g13 g14 (xa 0) (sa 0) g17 g18 u0 ++ (w_FTaken dA xa u1 ++ (w_FSeat dA sa u2 ++ (w_Bus dA ba bu))))) A) ([.ref (a 0), .int x0, .int x1] : List Value).toArray s 0 0 A = Q
  show W p l e ({ frames := 3, cells := 0, slots := 0, locals := 64 } : Room) s m ([.ref (a 0), .int x0, .int x1] : List Value).toArray below meth c s.heap [] 0 0 Q (F0 m 0 ls [])
  have RET : ∀ (r2 : Int32) (w0 : MOT) (w1 : FTakenT) (w2 : FSeatT) (H : Heap) (locs : List Loc) (ls : Array Slot) (pc : Nat), some (r2, w0, w1, w2) = some (rv, u0, u1, u2) → va_P D vwCl (w_MO dA a (some (ba 0)) q1 g2 g3 g4 g5 g6 g7 g8 g9 g10 g11 g12 g13 g14 (xa 0) (sa 0) g17 g18 w0 ++ (w_FTaken dA xa w1 ++ (w_FSeat dA sa w2 ++ (w_Bus dA ba bu)))) H → va_D A (w_MO dA a (some (ba 0)) q1 g2 g3 g4 g5 g6 g7 g8 g9 g10 g11 g12 g13 g14 (xa 0) (sa 0) g17 g18 w0 ++ (w_FTaken dA xa w1 ++ (w_FSeat dA sa w2 ++ (w_Bus dA ba bu)))) → va_S A s.heap H locs → decode cX12_film pc = .ok (.ireturn, 1) → W p l e ({ frames := 3, cells := 0, slots := 0, locals := 64 } : Room) s m ([.ref (a 0), .int x0, .int x1] : List Value).toArray below meth c H locs 0 0 Q (F0 m pc ls [.int r2]) := by
    intro r2 w0 w1 w2 H locs ls pc hq hP hD hS hd
    cases hq
    rw [← hQ]
    exact W.iret hx hb hr (fun t ht hW => ⟨⟨_, (), rfl, rfl, by rw [ht]; exact hP, hD⟩, hS.F ht⟩) hS.2.2 hd
  have B_38 : ∀ (z0 : MOT) (z1 : FTakenT) (z2 : FSeatT) (H : Heap) (locs : List Loc) (ls : Array Slot), f_X12_film_b38 bu z0 z1 z2 = some (rv, u0, u1, u2) → va_P D vwCl (w_MO dA a (some (ba 0)) q1 g2 g3 g4 g5 g6 g7 g8 g9 g10 g11 g12 g13 g14 (xa 0) (sa 0) g17 g18 z0 ++ (w_FTaken dA xa z1 ++ (w_FSeat dA sa z2 ++ (w_Bus dA ba bu)))) H → va_D A (w_MO dA a (some (ba 0)) q1 g2 g3 g4 g5 g6 g7 g8 g9 g10 g11 g12 g13 g14 (xa 0) (sa 0) g17 g18 z0 ++ (w_FTaken dA xa z1 ++ (w_FSeat dA sa z2 ++ (w_Bus dA ba bu)))) → va_S A s.heap H locs → lv_has ls 3 [(0, .ref (a 0))] → W p l e ({ frames := 3, cells := 0, slots := 0, locals := 64 } : Room) s m ([.ref (a 0), .int x0, .int x1] : List Value).toArray below meth c H locs 0 0 Q (F0 m 38 ls []) := by
    intro z0 z1 z2 H locs ls hf hP hD hS hl
    rw [f_X12_film_b38] at hf
    refine lv_aload_n hx hb dX12_film_38 rfl (lv_at hl 0 rfl) ?_
    refine lv_iconst (v := (2 : Int32)) hx hb dX12_film_39 (by decide) ?_
    obtain ⟨r5, hc5, hf⟩ := kb_bind hf
    refine kb_ci (ws2 := (w_MO dA a (some (ba 0)) q1 g2 g3 g4 g5 g6 g7 g8 g9 g10 g11 g12 g13 g14 (xa 0) (sa 0) g17 g18 r5.2 ++ (w_FTaken dA xa z1 ++ (w_FSeat dA sa z2 ++ (w_Bus dA ba bu))))) (kb_rV (n := 1) (As := [.int (2 : Int32)]) (rest := []) hx hb hml hown hK (c_X12_refused l D dA H.size a (some (ba 0)) q1 g2 g3 g4 g5 g6 g7 g8 g9 g10 g11 g12 g13 g14 (xa 0) (sa 0) g17 g18 z0 (2 : Int32) r5.1 r5.2 hc5) ⟨ww_6_82, ww_6_79, ww_6_81, ws_46, ww_1_12, rfl, by decide, by decide⟩ rfl rfl (by decide +kernel) ⟨Nat.le_of_ble_eq_true rfl, Nat.le_of_ble_eq_true rfl⟩ hP hD hS hA hE [0] rfl (by decide) 0 rfl rfl rfl hl.1 rfl (Nat.le_of_ble_eq_true rfl) dX12_film_40 ⟨Nat.le_of_ble_eq_true rfl, Nat.le_of_ble_eq_true rfl⟩) hP hD hS hA [0] [1, 2, 3, 4, 5, 6, 7, 8, 9, 10, 11, 12, 13, 14, 15, 16, 17, 18] [18, 0, 1, 2, 3, 4, 5, 6, 7, 8, 9, 10, 11, 12, 13, 14, 15, 16, 17] rfl rfl (by decide) (by decide) rfl (by decide) (fun H locs hP hD hS => ?_)
    exact RET _ _ _ _ H _ ls 43 hf hP hD hS dX12_film_43
  have B_89 : ∀ (z0 : MOT) (z1 : FTakenT) (z2 : FSeatT) (H : Heap) (locs : List Loc) (ls : Array Slot), f_X12_film_b89 bu z0 z1 z2 = some (rv, u0, u1, u2) → va_P D vwCl (w_MO dA a (some (ba 0)) q1 g2 g3 g4 g5 g6 g7 g8 g9 g10 g11 g12 g13 g14 (xa 0) (sa 0) g17 g18 z0 ++ (w_FTaken dA xa z1 ++ (w_FSeat dA sa z2 ++ (w_Bus dA ba bu)))) H → va_D A (w_MO dA a (some (ba 0)) q1 g2 g3 g4 g5 g6 g7 g8 g9 g10 g11 g12 g13 g14 (xa 0) (sa 0) g17 g18 z0 ++ (w_FTaken dA xa z1 ++ (w_FSeat dA sa z2 ++ (w_Bus dA ba bu)))) → va_S A s.heap H locs → lv_has ls 3 [(0, .ref (a 0))] → W p l e ({ frames := 3, cells := 0, slots := 0, locals := 64 } : Room) s m ([.ref (a 0), .int x0, .int x1] : List Value).toArray below meth c H locs 0 0 Q (F0 m 89 ls []) := by
    intro z0 z1 z2 H locs ls hf hP hD hS hl
    rw [f_X12_film_b89] at hf
    refine lv_aload_n hx hb dX12_film_89 rfl (lv_at hl 0 rfl) ?_
    refine lv_aload_n hx hb dX12_film_90 rfl (lv_at hl 0 rfl) ?_
    refine va_get (D := D) (ci := 12) (v := .int (mo_films z0)) (C := RX12) (T := TX12) (N := 35) hx hb hts kb_inX12 hown hK.1 hP 0 rfl rfl 30 (by decide) (hK.2.w ww_5_230 rfl _) (fun _ h9 => h9) rfl dX12_film_91 ?_
    obtain ⟨r11, hc11, hf⟩ := kb_bind hf
    refine kb_ci (ws2 := (w_MO dA a (some (ba 0)) q1 g2 g3 g4 g5 g6 g7 g8 g9 g10 g11 g12 g13 g14 (xa 0) (sa 0) g17 g18 r11.2 ++ (w_FTaken dA xa z1 ++ (w_FSeat dA sa z2 ++ (w_Bus dA ba bu))))) (kb_rV (n := 1) (As := [.int (mo_films z0)]) (rest := []) hx hb hml hown hK (c_X12_done l D dA H.size a (some (ba 0)) q1 g2 g3 g4 g5 g6 g7 g8 g9 g10 g11 g12 g13 g14 (xa 0) (sa 0) g17 g18 z0 (mo_films z0) r11.1 r11.2 hc11) ⟨ww_7_100, ww_7_97, ww_7_99, ws_71, ww_1_12, rfl, by decide, by decide⟩ rfl rfl (by decide +kernel) ⟨Nat.le_of_ble_eq_true rfl, Nat.le_of_ble_eq_true rfl⟩ hP hD hS hA hE [0] rfl (by decide) 0 rfl rfl rfl hl.1 rfl (Nat.le_of_ble_eq_true rfl) dX12_film_94 ⟨Nat.le_of_ble_eq_true rfl, Nat.le_of_ble_eq_true rfl⟩) hP hD hS hA [0] [1, 2, 3, 4, 5, 6, 7, 8, 9, 10, 11, 12, 13, 14, 15, 16, 17, 18] [18, 0, 1, 2, 3, 4, 5, 6, 7, 8, 9, 10, 11, 12, 13, 14, 15, 16, 17] rfl rfl (by decide) (by decide) rfl (by decide) (fun H locs hP hD hS => ?_)
    exact RET _ _ _ _ H _ ls 97 hf hP hD hS dX12_film_97
  have B_79 : ∀ (z0 : MOT) (z1 : FTakenT) (z2 : FSeatT) (H : Heap) (locs : List Loc) (ls : Array Slot), f_X12_film_b79 bu z0 z1 z2 = some (rv, u0, u1, u2) → va_P D vwCl (w_MO dA a (some (ba 0)) q1 g2 g3 g4 g5 g6 g7 g8 g9 g10 g11 g12 g13 g14 (xa 0) (sa 0) g17 g18 z0 ++ (w_FTaken dA xa z1 ++ (w_FSeat dA sa z2 ++ (w_Bus dA ba bu)))) H → va_D A (w_MO dA a (some (ba 0)) q1 g2 g3 g4 g5 g6 g7 g8 g9 g10 g11 g12 g13 g14 (xa 0) (sa 0) g17 g18 z0 ++ (w_FTaken dA xa z1 ++ (w_FSeat dA sa z2 ++ (w_Bus dA ba bu)))) → va_S A s.heap H locs → lv_has ls 3 [(0, .ref (a 0))] → W p l e ({ frames := 3, cells := 0, slots := 0, locals := 64 } : Room) s m ([.ref (a 0), .int x0, .int x1] : List Value).toArray below meth c H locs 0 0 Q (F0 m 79 ls []) := by
    intro z0 z1 z2 H locs ls hf hP hD hS hl
    rw [f_X12_film_b79] at hf
    refine lv_aload_n hx hb dX12_film_79 rfl (lv_at hl 0 rfl) ?_
    refine lv_dup hx hb dX12_film_80 rfl ?_
    refine va_get (D := D) (ci := 12) (v := .int (mo_films z0)) (C := RX12) (T := TX12) (N := 35) hx hb hts kb_inX12 hown hK.1 hP 0 rfl rfl 30 (by decide) (hK.2.w ww_5_230 rfl _) (fun _ h9 => h9) rfl dX12_film_81 ?_
    refine lv_iconst (v := (1 : Int32)) hx hb dX12_film_84 (by decide) ?_
    refine lv_iadd hx hb dX12_film_85 ?_
    refine va_put (D := D) (ci := 12) (v := .int ((mo_films z0) + (1 : Int32))) (ty := .int) (C := RX12) (T := TX12) (N := 35) hx hb hts kb_inX12 tyX12 tyX12_ok nmX12 hown hK.1 hP hD hS 0 rfl rfl 30 (by decide) (hK.2.w ww_5_230 rfl _) (fun _ h9 => h9) rfl (by decide +kernel) rfl rfl (Nat.le_of_ble_eq_true rfl) dX12_film_86 (fun H locs hP hD hS => ?_)
    have hP : va_P D vwCl (w_MO dA a (some (ba 0)) q1 g2 g3 g4 g5 g6 g7 g8 g9 g10 g11 g12 g13 g14 (xa 0) (sa 0) g17 g18 (mo_set_films z0 ((mo_films z0) + (1 : Int32))) ++ (w_FTaken dA xa z1 ++ (w_FSeat dA sa z2 ++ (w_Bus dA ba bu)))) H := hP
    have hD : va_D A (w_MO dA a (some (ba 0)) q1 g2 g3 g4 g5 g6 g7 g8 g9 g10 g11 g12 g13 g14 (xa 0) (sa 0) g17 g18 (mo_set_films z0 ((mo_films z0) + (1 : Int32))) ++ (w_FTaken dA xa z1 ++ (w_FSeat dA sa z2 ++ (w_Bus dA ba bu)))) := hD
    exact B_89 _ _ _ _ _ _ hf hP hD hS (lv_sub hl [0] rfl)
  have B_69 : ∀ (v2 : Int32) (z0 : MOT) (z1 : FTakenT) (z2 : FSeatT) (H : Heap) (locs : List Loc) (ls : Array Slot), f_X12_film_b69 bu v2 z0 z1 z2 = some (rv, u0, u1, u2) → va_P D vwCl (w_MO dA a (some (ba 0)) q1 g2 g3 g4 g5 g6 g7 g8 g9 g10 g11 g12 g13 g14 (xa 0) (sa 0) g17 g18 z0 ++ (w_FTaken dA xa z1 ++ (w_FSeat dA sa z2 ++ (w_Bus dA ba bu)))) H → va_D A (w_MO dA a (some (ba 0)) q1 g2 g3 g4 g5 g6 g7 g8 g9 g10 g11 g12 g13 g14 (xa 0) (sa 0) g17 g18 z0 ++ (w_FTaken dA xa z1 ++ (w_FSeat dA sa z2 ++ (w_Bus dA ba bu)))) → va_S A s.heap H locs → lv_has ls 3 [(0, .ref (a 0)), (2, .int v2)] → W p l e ({ frames := 3, cells := 0, slots := 0, locals := 64 } : Room) s m ([.ref (a 0), .int x0, .int x1] : List Value).toArray below meth c H locs 0 0 Q (F0 m 69 ls []) := by
    intro v2 z0 z1 z2 H locs ls hf hP hD hS hl
    rw [f_X12_film_b69] at hf
    refine lv_aload_n hx hb dX12_film_69 rfl (lv_at hl 0 rfl) ?_
    refine va_get (D := D) (ci := 12) (v := .ref (sa 0)) (C := RX12) (T := TX12) (N := 35) hx hb hts kb_inX12 hown hK.1 hP 0 rfl rfl 32 (by decide) (hK.2.w ww_5_232 rfl _) (fun _ h9 => h9) rfl dX12_film_70 ?_
    refine lv_aload_n hx hb dX12_film_73 rfl (lv_at hl 0 rfl) ?_
    refine va_get (D := D) (ci := 12) (v := .int (mo_films z0)) (C := RX12) (T := TX12) (N := 35) hx hb hts kb_inX12 hown hK.1 hP 0 rfl rfl 30 (by decide) (hK.2.w ww_5_230 rfl _) (fun _ h9 => h9) rfl dX12_film_74 ?_
    refine lv_iload_n hx hb dX12_film_77 rfl (lv_at hl 1 rfl) ?_
    obtain ⟨h_10, hf⟩ := kb_if hf
    refine va_iast (D := D) hx hb hK.1 hP hD hS 2 0 rfl rfl h_10 dX12_film_78 (fun H locs hP hD hS => ?_)
    have hP : va_P D vwCl (w_MO dA a (some (ba 0)) q1 g2 g3 g4 g5 g6 g7 g8 g9 g10 g11 g12 g13 g14 (xa 0) (sa 0) g17 g18 z0 ++ (w_FTaken dA xa z1 ++ (w_FSeat dA sa (yFSeat_set_r z2 (upd (yFSeat_r z2) ((mo_films z0)).toNatClampNeg v2)) ++ (w_Bus dA ba bu)))) H := hP
    have hD : va_D A (w_MO dA a (some (ba 0)) q1 g2 g3 g4 g5 g6 g7 g8 g9 g10 g11 g12 g13 g14 (xa 0) (sa 0) g17 g18 z0 ++ (w_FTaken dA xa z1 ++ (w_FSeat dA sa (yFSeat_set_r z2 (upd (yFSeat_r z2) ((mo_films z0)).toNatClampNeg v2)) ++ (w_Bus dA ba bu)))) := hD
    exact B_79 _ _ _ _ _ _ hf hP hD hS (lv_sub hl [0] rfl)
  have B_5 : ∀ (v1 : Int32) (v2 : Int32) (z0 : MOT) (z1 : FTakenT) (z2 : FSeatT) (H : Heap) (locs : List Loc) (ls : Array Slot), f_X12_film_b5 bu v1 v2 z0 z1 z2 = some (rv, u0, u1, u2) → va_P D vwCl (w_MO dA a (some (ba 0)) q1 g2 g3 g4 g5 g6 g7 g8 g9 g10 g11 g12 g13 g14 (xa 0) (sa 0) g17 g18 z0 ++ (w_FTaken dA xa z1 ++ (w_FSeat dA sa z2 ++ (w_Bus dA ba bu)))) H → va_D A (w_MO dA a (some (ba 0)) q1 g2 g3 g4 g5 g6 g7 g8 g9 g10 g11 g12 g13 g14 (xa 0) (sa 0) g17 g18 z0 ++ (w_FTaken dA xa z1 ++ (w_FSeat dA sa z2 ++ (w_Bus dA ba bu)))) → va_S A s.heap H locs → lv_has ls 3 [(0, .ref (a 0)), (1, .int v1), (2, .int v2)] → W p l e ({ frames := 3, cells := 0, slots := 0, locals := 64 } : Room) s m ([.ref (a 0), .int x0, .int x1] : List Value).toArray below meth c H locs 0 0 Q (F0 m 5 ls []) := by
    intro v1 v2 z0 z1 z2 H locs ls hf hP hD hS hl
    rw [f_X12_film_b5] at hf
    refine lv_aload_n hx hb dX12_film_5 rfl (lv_at hl 0 rfl) ?_
    refine lv_iload_n hx hb dX12_film_6 rfl (lv_at hl 2 rfl) ?_
    obtain ⟨r1, hc1, hf⟩ := kb_bind hf
    refine kb_ci (ws2 := (w_MO dA a (some (ba 0)) q1 g2 g3 g4 g5 g6 g7 g8 g9 g10 g11 g12 g13 g14 (xa 0) (sa 0) g17 g18 z0 ++ (w_FTaken dA xa z1 ++ (w_FSeat dA sa z2 ++ (w_Bus dA ba bu))))) (kb_rV (n := 1) (As := [.int v2]) (rest := []) hx hb hml hown hK (c_X12_isSeat l D dA H.size a ba q1 g2 g3 g4 g5 g6 g7 g8 g9 g10 g11 g12 g13 g14 (xa 0) (sa 0) g17 g18 z0 bu v2 r1 hc1) ⟨ww_7_179, ww_7_176, ww_7_178, ws_84, ww_1_12, rfl, by decide, by decide⟩ rfl rfl (by decide +kernel) ⟨Nat.le_of_ble_eq_true rfl, Nat.le_of_ble_eq_true rfl⟩ hP hD hS hA hE [0, 3, 4, 5, 6, 7, 8, 9, 10, 11, 12, 13, 14, 15, 16, 17, 18] rfl (by decide) 0 rfl rfl rfl hl.1 rfl (Nat.le_of_ble_eq_true rfl) dX12_film_7 ⟨Nat.le_of_ble_eq_true rfl, Nat.le_of_ble_eq_true rfl⟩) hP hD hS hA [0, 3, 4, 5, 6, 7, 8, 9, 10, 11, 12, 13, 14, 15, 16, 17, 18] [1, 2] [2, 0, 1, 3, 4, 5, 6, 7, 8, 9, 10, 11, 12, 13, 14, 15, 16, 17, 18] rfl rfl (by decide) (by decide) rfl (by decide) (fun H locs hP hD hS => ?_)
    refine lv_if_ne (tgt := 19) hx hb dX12_film_10 (by decide) (fun c_2 => ?_) (fun c_2 => ?_)
    · rw [if_neg c_2] at hf
      refine lv_iload_n hx hb dX12_film_19 rfl (lv_at hl 1 rfl) ?_
      refine lv_aload_n hx hb dX12_film_20 rfl (lv_at hl 0 rfl) ?_
      obtain ⟨r3, hc3, hf⟩ := kb_bind hf
      refine kb_ci (ws2 := (w_MO dA a (some (ba 0)) q1 g2 g3 g4 g5 g6 g7 g8 g9 g10 g11 g12 g13 g14 (xa 0) (sa 0) g17 g18 z0 ++ (w_FTaken dA xa z1 ++ (w_FSeat dA sa z2 ++ (w_Bus dA ba bu))))) (kb_rV (n := 0) (As := []) (rest := [.int v1]) hx hb hml hown hK (c_X12_allSeats l D dA H.size a ba q1 g2 g3 g4 g5 g6 g7 g8 g9 g10 g11 g12 g13 g14 (xa 0) (sa 0) g17 g18 z0 bu r3 hc3) ⟨ww_8_118, ww_8_115, ww_8_117, ws_107, ww_1_12, rfl, by decide, by decide⟩ rfl rfl (by decide +kernel) ⟨Nat.le_of_ble_eq_true rfl, Nat.le_of_ble_eq_true rfl⟩ hP hD hS hA hE [0, 3, 4, 5, 6, 7, 8, 9, 10, 11, 12, 13, 14, 15, 16, 17, 18] rfl (by decide) 0 rfl rfl rfl hl.1 rfl (Nat.le_of_ble_eq_true rfl) dX12_film_21 ⟨Nat.le_of_ble_eq_true rfl, Nat.le_of_ble_eq_true rfl⟩) hP hD hS hA [0, 3, 4, 5, 6, 7, 8, 9, 10, 11, 12, 13, 14, 15, 16, 17, 18] [1, 2] [2, 0, 1, 3, 4, 5, 6, 7, 8, 9, 10, 11, 12, 13, 14, 15, 16, 17, 18] rfl rfl (by decide) (by decide) rfl (by decide) (fun H locs hP hD hS => ?_)
      refine lv_iconst (v := (-1 : Int32)) hx hb dX12_film_24 (by decide) ?_
      refine lv_ixor hx hb dX12_film_25 ?_
      refine lv_iand hx hb dX12_film_26 ?_
      refine lv_if_ne (tgt := 38) hx hb dX12_film_27 (by decide) (fun c_4 => ?_) (fun c_4 => ?_)
      · rw [if_neg c_4] at hf
        exact B_38 _ _ _ _ _ _ hf hP hD hS (lv_sub hl [0] rfl)
      · rw [if_pos c_4] at hf
        refine lv_iload_n hx hb dX12_film_30 rfl (lv_at hl 1 rfl) ?_
        refine lv_iload_n hx hb dX12_film_31 rfl (lv_at hl 2 rfl) ?_
        obtain ⟨r6, hc6, hf⟩ := kb_bind hf
        refine kb_ci (ws2 := (w_MO dA a (some (ba 0)) q1 g2 g3 g4 g5 g6 g7 g8 g9 g10 g11 g12 g13 g14 (xa 0) (sa 0) g17 g18 z0 ++ (w_FTaken dA xa z1 ++ (w_FSeat dA sa z2 ++ (w_Bus dA ba bu))))) (kb_rS (n := 2) (As := [.int v1, .int v2]) (rest := []) hx hb hml hown hK (c_X12_has l D dA H.size v1 v2 r6 hc6) ⟨ww_7_182, ww_7_180, ww_7_181, ww_1_12, by decide, by decide⟩ rfl rfl (by decide +kernel) ⟨Nat.le_of_ble_eq_true rfl, Nat.le_of_ble_eq_true rfl⟩ hP hD hS hA hE [] rfl (by decide) rfl hl.1 rfl (Nat.le_of_ble_eq_true rfl) dX12_film_32 ⟨Nat.le_of_ble_eq_true rfl, Nat.le_of_ble_eq_true rfl⟩) hP hD hS hA [] [0, 1, 2, 3, 4, 5, 6, 7, 8, 9, 10, 11, 12, 13, 14, 15, 16, 17, 18] [0, 1, 2, 3, 4, 5, 6, 7, 8, 9, 10, 11, 12, 13, 14, 15, 16, 17, 18] rfl rfl (by decide) (by decide) rfl (by decide) (fun H locs hP hD hS => ?_)
        refine lv_if_eq (tgt := 44) hx hb dX12_film_35 (by decide) (fun c_7 => ?_) (fun c_7 => ?_)
        · rw [if_pos c_7] at hf
          refine lv_aload_n hx hb dX12_film_44 rfl (lv_at hl 0 rfl) ?_
          refine va_get (D := D) (ci := 12) (v := .int (mo_films z0)) (C := RX12) (T := TX12) (N := 35) hx hb hts kb_inX12 hown hK.1 hP 0 rfl rfl 30 (by decide) (hK.2.w ww_5_230 rfl _) (fun _ h9 => h9) rfl dX12_film_45 ?_
          refine lv_bipush (v := (12 : Int32)) hx hb dX12_film_48 (by decide) ?_
          refine lv_icmp_ne (tgt := 59) hx hb dX12_film_50 (by decide) (fun c_8 => ?_) (fun c_8 => ?_)
          · rw [if_neg c_8] at hf
            refine lv_aload_n hx hb dX12_film_59 rfl (lv_at hl 0 rfl) ?_
            refine va_get (D := D) (ci := 12) (v := .ref (xa 0)) (C := RX12) (T := TX12) (N := 35) hx hb hts kb_inX12 hown hK.1 hP 0 rfl rfl 31 (by decide) (hK.2.w ww_5_231 rfl _) (fun _ h9 => h9) rfl dX12_film_60 ?_
            refine lv_aload_n hx hb dX12_film_63 rfl (lv_at hl 0 rfl) ?_
            refine va_get (D := D) (ci := 12) (v := .int (mo_films z0)) (C := RX12) (T := TX12) (N := 35) hx hb hts kb_inX12 hown hK.1 hP 0 rfl rfl 30 (by decide) (hK.2.w ww_5_230 rfl _) (fun _ h9 => h9) rfl dX12_film_64 ?_
            refine lv_iload_n hx hb dX12_film_67 rfl (lv_at hl 1 rfl) ?_
            obtain ⟨h_9, hf⟩ := kb_if hf
            refine va_iast (D := D) hx hb hK.1 hP hD hS 1 0 rfl rfl h_9 dX12_film_68 (fun H locs hP hD hS => ?_)
            have hP : va_P D vwCl (w_MO dA a (some (ba 0)) q1 g2 g3 g4 g5 g6 g7 g8 g9 g10 g11 g12 g13 g14 (xa 0) (sa 0) g17 g18 z0 ++ (w_FTaken dA xa (yFTaken_set_r z1 (upd (yFTaken_r z1) ((mo_films z0)).toNatClampNeg v1)) ++ (w_FSeat dA sa z2 ++ (w_Bus dA ba bu)))) H := hP
            have hD : va_D A (w_MO dA a (some (ba 0)) q1 g2 g3 g4 g5 g6 g7 g8 g9 g10 g11 g12 g13 g14 (xa 0) (sa 0) g17 g18 z0 ++ (w_FTaken dA xa (yFTaken_set_r z1 (upd (yFTaken_r z1) ((mo_films z0)).toNatClampNeg v1)) ++ (w_FSeat dA sa z2 ++ (w_Bus dA ba bu)))) := hD
            exact B_69 _ _ _ _ _ _ _ hf hP hD hS (lv_sub hl [0, 2] rfl)
          · rw [if_pos c_8] at hf
            refine lv_aload_n hx hb dX12_film_53 rfl (lv_at hl 0 rfl) ?_
            refine lv_iconst (v := (3 : Int32)) hx hb dX12_film_54 (by decide) ?_
            obtain ⟨r12, hc12, hf⟩ := kb_bind hf
            refine kb_ci (ws2 := (w_MO dA a (some (ba 0)) q1 g2 g3 g4 g5 g6 g7 g8 g9 g10 g11 g12 g13 g14 (xa 0) (sa 0) g17 g18 r12.2 ++ (w_FTaken dA xa z1 ++ (w_FSeat dA sa z2 ++ (w_Bus dA ba bu))))) (kb_rV (n := 1) (As := [.int (3 : Int32)]) (rest := []) hx hb hml hown hK (c_X12_refused l D dA H.size a (some (ba 0)) q1 g2 g3 g4 g5 g6 g7 g8 g9 g10 g11 g12 g13 g14 (xa 0) (sa 0) g17 g18 z0 (3 : Int32) r12.1 r12.2 hc12) ⟨ww_6_82, ww_6_79, ww_6_81, ws_46, ww_1_12, rfl, by decide, by decide⟩ rfl rfl (by decide +kernel) ⟨Nat.le_of_ble_eq_true rfl, Nat.le_of_ble_eq_true rfl⟩ hP hD hS hA hE [0] rfl (by decide) 0 rfl rfl rfl hl.1 rfl (Nat.le_of_ble_eq_true rfl) dX12_film_55 ⟨Nat.le_of_ble_eq_true rfl, Nat.le_of_ble_eq_true rfl⟩) hP hD hS hA [0] [1, 2, 3, 4, 5, 6, 7, 8, 9, 10, 11, 12, 13, 14, 15, 16, 17, 18] [18, 0, 1, 2, 3, 4, 5, 6, 7, 8, 9, 10, 11, 12, 13, 14, 15, 16, 17] rfl rfl (by decide) (by decide) rfl (by decide) (fun H locs hP hD hS => ?_)
            exact RET _ _ _ _ H _ ls 58 hf hP hD hS dX12_film_58
        · rw [if_neg c_7] at hf
          exact B_38 _ _ _ _ _ _ hf hP hD hS (lv_sub hl [0] rfl)
    · rw [if_pos c_2] at hf
      refine lv_aload_n hx hb dX12_film_13 rfl (lv_at hl 0 rfl) ?_
      refine lv_iconst (v := (1 : Int32)) hx hb dX12_film_14 (by decide) ?_
      obtain ⟨r13, hc13, hf⟩ := kb_bind hf
      refine kb_ci (ws2 := (w_MO dA a (some (ba 0)) q1 g2 g3 g4 g5 g6 g7 g8 g9 g10 g11 g12 g13 g14 (xa 0) (sa 0) g17 g18 r13.2 ++ (w_FTaken dA xa z1 ++ (w_FSeat dA sa z2 ++ (w_Bus dA ba bu))))) (kb_rV (n := 1) (As := [.int (1 : Int32)]) (rest := []) hx hb hml hown hK (c_X12_refused l D dA H.size a (some (ba 0)) q1 g2 g3 g4 g5 g6 g7 g8 g9 g10 g11 g12 g13 g14 (xa 0) (sa 0) g17 g18 z0 (1 : Int32) r13.1 r13.2 hc13) ⟨ww_6_82, ww_6_79, ww_6_81, ws_46, ww_1_12, rfl, by decide, by decide⟩ rfl rfl (by decide +kernel) ⟨Nat.le_of_ble_eq_true rfl, Nat.le_of_ble_eq_true rfl⟩ hP hD hS hA hE [0] rfl (by decide) 0 rfl rfl rfl hl.1 rfl (Nat.le_of_ble_eq_true rfl) dX12_film_15 ⟨Nat.le_of_ble_eq_true rfl, Nat.le_of_ble_eq_true rfl⟩) hP hD hS hA [0] [1, 2, 3, 4, 5, 6, 7, 8, 9, 10, 11, 12, 13, 14, 15, 16, 17, 18] [18, 0, 1, 2, 3, 4, 5, 6, 7, 8, 9, 10, 11, 12, 13, 14, 15, 16, 17] rfl rfl (by decide) (by decide) rfl (by decide) (fun H locs hP hD hS => ?_)
      exact RET _ _ _ _ H _ ls 18 hf hP hD hS dX12_film_18
  have E0 : ∀ (H : Heap) (locs : List Loc), va_P D vwCl (w_MO dA a (some (ba 0)) q1 g2 g3 g4 g5 g6 g7 g8 g9 g10 g11 g12 g13 g14 (xa 0) (sa 0) g17 g18 mo ++ (w_FTaken dA xa y_filmTaken ++ (w_FSeat dA sa y_filmSeat ++ (w_Bus dA ba bu)))) H → va_D A (w_MO dA a (some (ba 0)) q1 g2 g3 g4 g5 g6 g7 g8 g9 g10 g11 g12 g13 g14 (xa 0) (sa 0) g17 g18 mo ++ (w_FTaken dA xa y_filmTaken ++ (w_FSeat dA sa y_filmSeat ++ (w_Bus dA ba bu)))) → va_S A s.heap H locs → W p l e ({ frames := 3, cells := 0, slots := 0, locals := 64 } : Room) s m ([.ref (a 0), .int x0, .int x1] : List Value).toArray below meth c H locs 0 0 Q (F0 m 0 ls []) := by
    intro H locs hP hD hS
    rw [f_X12_film] at hf
    refine lv_aload_n hx hb dX12_film_0 rfl (lv_at hl 0 rfl) ?_
    refine lv_iconst (v := (0 : Int32)) hx hb dX12_film_1 (by decide) ?_
    refine va_put (D := D) (ci := 12) (v := .int (0 : Int32)) (ty := .int) (C := RX12) (T := TX12) (N := 35) hx hb hts kb_inX12 tyX12 tyX12_ok nmX12 hown hK.1 hP hD hS 0 rfl rfl 0 (by decide) (hK.2.w ww_5_200 rfl _) (fun _ h9 => h9) rfl (by decide +kernel) rfl rfl (Nat.le_of_ble_eq_true rfl) dX12_film_2 (fun H locs hP hD hS => ?_)
    have hP : va_P D vwCl (w_MO dA a (some (ba 0)) q1 g2 g3 g4 g5 g6 g7 g8 g9 g10 g11 g12 g13 g14 (xa 0) (sa 0) g17 g18 (mo_set_thrown mo (0 : Int32)) ++ (w_FTaken dA xa y_filmTaken ++ (w_FSeat dA sa y_filmSeat ++ (w_Bus dA ba bu)))) H := hP
    have hD : va_D A (w_MO dA a (some (ba 0)) q1 g2 g3 g4 g5 g6 g7 g8 g9 g10 g11 g12 g13 g14 (xa 0) (sa 0) g17 g18 (mo_set_thrown mo (0 : Int32)) ++ (w_FTaken dA xa y_filmTaken ++ (w_FSeat dA sa y_filmSeat ++ (w_Bus dA ba bu)))) := hD
    exact B_5 _ _ _ _ _ _ _ _ hf hP hD hS (lv_sub hl [0, 1, 2] rfl)
  exact E0 _ _ hP hD hS

noncomputable def f_X12_agreeing_b58 (mo : MOT) (y_filmTaken : FTakenT) (y_filmSeat : FSeatT) (bu : BusT) (k4 : Int32 → Int32 → Int32 → WhoT → LookT → Option (Int32 × WhoT × LookT)) (k15 : Int32 → Int32 → Int32 → Int32 → WhoT → LookT → Option (Int32 × WhoT × LookT)) (v1 : Int32) (v2 : Int32) (v3 : Int32) (v4 : Int32) (z1 : WhoT) (z2 : LookT) : Option (Int32 × WhoT × LookT) := k15 v1 v2 v3 (v4 + (1 : Int32)) z1 z2
noncomputable def f_X12_agreeing_b50 (mo : MOT) (y_filmTaken : FTakenT) (y_filmSeat : FSeatT) (bu : BusT) (k4 : Int32 → Int32 → Int32 → WhoT → LookT → Option (Int32 × WhoT × LookT)) (k15 : Int32 → Int32 → Int32 → Int32 → WhoT → LookT → Option (Int32 × WhoT × LookT)) (v1 : Int32) (v2 : Int32) (v3 : Int32) (v4 : Int32) (z1 : WhoT) (z2 : LookT) : Option (Int32 × WhoT × LookT) := if kb_in? v4 20 then f_X12_agreeing_b58 mo y_filmTaken y_filmSeat bu k4 k15 v1 v2 v3 v4 z1 (yLook_set_r z2 (upd (yLook_r z2) (v4).toNatClampNeg (5 : Int32))) else none
noncomputable def f_X12_agreeing_b49 (mo : MOT) (y_filmTaken : FTakenT) (y_filmSeat : FSeatT) (bu : BusT) (k4 : Int32 → Int32 → Int32 → WhoT → LookT → Option (Int32 × WhoT × LookT)) (k15 : Int32 → Int32 → Int32 → Int32 → WhoT → LookT → Option (Int32 × WhoT × LookT)) (v1 : Int32) (v2 : Int32) (v3 : Int32) (v4 : Int32) (s0 : Int32) (s1 : Int32) (z1 : WhoT) (z2 : LookT) : Option (Int32 × WhoT × LookT) := if kb_in? s1 20 then f_X12_agreeing_b50 mo y_filmTaken y_filmSeat bu k4 k15 v1 v2 v3 v4 (yWho_set_r z1 (upd (yWho_r z1) (s1).toNatClampNeg s0)) z2 else none
noncomputable def f_X12_agreeing_b15 (mo : MOT) (y_filmTaken : FTakenT) (y_filmSeat : FSeatT) (bu : BusT) (k4 : Int32 → Int32 → Int32 → WhoT → LookT → Option (Int32 × WhoT × LookT)) : Nat → Int32 → Int32 → Int32 → Int32 → WhoT → LookT → Option (Int32 × WhoT × LookT)
  | 0, _, _, _, _, _, _ => none
  | n + 1, v1, v2, v3, v4, z1, z2 => (if (20 : Int32) ≤ v4 then (f_X12_allSeats mo bu).bind fun r3 => if kb_in? v3 12 then (f_X12_best mo z1 z2 bu (r3 &&& (((yFTaken_r y_filmTaken) (v3).toNatClampNeg) ^^^ (-1 : Int32))) v1 (-2 : Int32) (5 : Int32)).bind fun r5 => if kb_in? v3 12 then (f_X12_has r5 ((yFSeat_r y_filmSeat) (v3).toNatClampNeg)).bind fun r7 => (if r7 = 0 then k4 v1 (v2 + (0 : Int32)) (v3 + (1 : Int32)) z1 z2 else k4 v1 (v2 + (1 : Int32)) (v3 + (1 : Int32)) z1 z2) else none else none else if kb_in? v3 12 then (f_X12_has ((yFTaken_r y_filmTaken) (v3).toNatClampNeg) v4).bind fun r10 => (if r10 = 0 then f_X12_agreeing_b49 mo y_filmTaken y_filmSeat bu k4 (f_X12_agreeing_b15 mo y_filmTaken y_filmSeat bu k4 n) v1 v2 v3 v4 (-2 : Int32) v4 z1 z2 else f_X12_agreeing_b49 mo y_filmTaken y_filmSeat bu k4 (f_X12_agreeing_b15 mo y_filmTaken y_filmSeat bu k4 n) v1 v2 v3 v4 (99 : Int32) v4 z1 z2) else none)
noncomputable def f_X12_agreeing_b4 (mo : MOT) (y_filmTaken : FTakenT) (y_filmSeat : FSeatT) (bu : BusT) : Nat → Int32 → Int32 → Int32 → WhoT → LookT → Option (Int32 × WhoT × LookT)
  | 0, _, _, _, _, _ => none
  | n + 1, v1, v2, v3, z1, z2 => (if (mo_films mo) ≤ v3 then some (v2, z1, z2) else f_X12_agreeing_b15 mo y_filmTaken y_filmSeat bu (f_X12_agreeing_b4 mo y_filmTaken y_filmSeat bu n) 4096 v1 v2 v3 (0 : Int32) z1 z2)
noncomputable def f_X12_agreeing (mo : MOT) (y_who : WhoT) (y_look : LookT) (y_filmTaken : FTakenT) (y_filmSeat : FSeatT) (bu : BusT) (x0 : Int32) : Option (Int32 × WhoT × LookT) := f_X12_agreeing_b4 mo y_filmTaken y_filmSeat bu 4096 x0 (0 : Int32) (0 : Int32) y_who y_look
set_option maxHeartbeats 4000000 in
set_option maxRecDepth 100000 in
theorem c_X12_agreeing (l : Launch) (D : va_G) (dA : Nat → ClassId) (sz : Nat) (a : Nat → Nat) (ha : Nat → Nat) (ca : Nat → Nat) (xa : Nat → Nat) (sa : Nat → Nat) (ba : Nat → Nat) (q1 : Option Nat) (g2 : Nat) (g3 : Nat) (g4 : Nat) (g5 : Nat) (g6 : Nat) (g7 : Nat) (g10 : Nat) (g11 : Nat) (g12 : Nat) (g13 : Nat) (g14 : Nat) (g17 : Nat) (g18 : Nat) (mo : MOT) (y_who : WhoT) (y_look : LookT) (y_filmTaken : FTakenT) (y_filmSeat : FSeatT) (bu : BusT) (x0 : Int32) (rv : Int32) (u1 : WhoT) (u2 : LookT) (hf : f_X12_agreeing mo y_who y_look y_filmTaken y_filmSeat bu x0 = some (rv, u1, u2)) : kb_Mi l yX12_agreeing cX12_agreeing 5 (some .int) ({ frames := 5, cells := 0, slots := 0, locals := 122 } : Room) D dA [.ref (a 0), .int x0] sz (w_MO dA a (some (ba 0)) q1 g2 g3 g4 g5 g6 g7 (ha 0) (ca 0) g10 g11 g12 g13 g14 (xa 0) (sa 0) g17 g18 mo ++ (w_Who dA ha y_who ++ (w_Look dA ca y_look ++ (w_FTaken dA xa y_filmTaken ++ (w_FSeat dA sa y_filmSeat ++ (w_Bus dA ba bu)))))) 0 0 rv (w_MO dA a (some (ba 0)) q1 g2 g3 g4 g5 g6 g7 (ha 0) (ca 0) g10 g11 g12 g13 g14 (xa 0) (sa 0) g17 g18 mo ++ (w_Who dA ha u1 ++ (w_Look dA ca u2 ++ (w_FTaken dA xa y_filmTaken ++ (w_FSeat dA sa y_filmSeat ++ (w_Bus dA ba bu)))))) := by
  refine Met.ofW (cc := cX12_agreeing) (maxL := 5) (ret := (some .int)) (by decide) rfl ?_
  intro p e s m args below meth c s₁ B hml hv
  obtain ⟨rfl, hsz, hP, hK, hD0, hE⟩ := hv
  have hx := B.exec
  have hb := B.bytes
  have hr := B.returns
  have hown : s.vm.findClass RX12 = some m.cls := findClass_of_methodNamed B.named
  have hlocks := B.notSynchronized
  have hts : ∀ w ∈ kb_gw, w.before ([.ref (a 0), .int x0] : List Value).toArray s = true := fun w hw => hK.2.1 w hw _
  subst hsz
  have hD := hD0.self (sz := s.heap.size)
  generalize hAe : va_A (w_MO dA a (some (ba 0)) q1 g2 g3 g4 g5 g6 g7 (ha 0) (ca 0) g10 g11 g12 g13 g14 (xa 0) (sa 0) g17 g18 mo ++ (w_Who dA ha y_who ++ (w_Look dA ca y_look ++ (w_FTaken dA xa y_filmTaken ++ (w_FSeat dA sa y_filmSeat ++ (w_Bus dA ba bu)))))) s.heap.size = A at hD hE ⊢
  have hA : ∀ q : Nat, s.heap.size ≤ q → A q := fun q h => by rw [← hAe]; exact Or.inr h
  have hS : va_S A s.heap s.heap [] := va_S.rf
  have hl := lv_entry ([.ref (a 0), .int x0]) (n := 5) (Nat.le_of_ble_eq_true rfl)
  rw [lg_entry_eq]
  generalize (lg_sl ([.ref (a 0), .int x0]) ++ List.replicate (5 - (lg_sl ([.ref (a 0), .int x0])).length) Slot.unset).toArray = ls at hl ⊢
  have hl : lv_has ls 5 [(0, .ref (a 0)), (1, .int x0)] := hl
  generalize hQ : MQ below (va_Qi (fun r (_ : Unit) => r = rv) (kb_B D A (w_MO dA a (some (ba 0)) q1 g2 g3 g4 g5 g6 g7 (ha 0) (ca 0) g10 g11 g12 g13 g14 (xa 0) (sa 0) g17 g18 mo ++ (w_Who dA ha u1 ++ (w_Look dA ca u2 ++ (w_FTaken dA xa y_filmTaken ++ (w_FSeat dA sa y_filmSeat ++ (w_Bus dA ba bu))))))) A) ([.ref (a 0), .int x0] : List Value).toArray s 0 0 A = Q
  show W p l e ({ frames := 5, cells := 0, slots := 0, locals := 122 } : Room) s m ([.ref (a 0), .int x0] : List Value).toArray below meth c s.heap [] 0 0 Q (F0 m 0 ls [])
  have RET : ∀ (r2 : Int32) (w1 : WhoT) (w2 : LookT) (H : Heap) (locs : List Loc) (ls : Array Slot) (pc : Nat), some (r2, w1, w2) = some (rv, u1, u2) → va_P D vwCl (w_MO dA a (some (ba 0)) q1 g2 g3 g4 g5 g6 g7 (ha 0) (ca 0) g10 g11 g12 g13 g14 (xa 0) (sa 0) g17 g18 mo ++ (w_Who dA ha w1 ++ (w_Look dA ca w2 ++ (w_FTaken dA xa y_filmTaken ++ (w_FSeat dA sa y_filmSeat ++ (w_Bus dA ba bu)))))) H → va_D A (w_MO dA a (some (ba 0)) q1 g2 g3 g4 g5 g6 g7 (ha 0) (ca 0) g10 g11 g12 g13 g14 (xa 0) (sa 0) g17 g18 mo ++ (w_Who dA ha w1 ++ (w_Look dA ca w2 ++ (w_FTaken dA xa y_filmTaken ++ (w_FSeat dA sa y_filmSeat ++ (w_Bus dA ba bu)))))) → va_S A s.heap H locs → decode cX12_agreeing pc = .ok (.ireturn, 1) → W p l e ({ frames := 5, cells := 0, slots := 0, locals := 122 } : Room) s m ([.ref (a 0), .int x0] : List Value).toArray below meth c H locs 0 0 Q (F0 m pc ls [.int r2]) := by
    intro r2 w1 w2 H locs ls pc hq hP hD hS hd
    cases hq
    rw [← hQ]
    exact W.iret hx hb hr (fun t ht hW => ⟨⟨_, (), rfl, rfl, by rw [ht]; exact hP, hD⟩, hS.F ht⟩) hS.2.2 hd
  have B_58 : ∀ (k4 : Int32 → Int32 → Int32 → WhoT → LookT → Option (Int32 × WhoT × LookT)) (hk4 : ∀ (v1 : Int32) (v2 : Int32) (v3 : Int32) (z1 : WhoT) (z2 : LookT) (H : Heap) (locs : List Loc) (ls : Array Slot), k4 v1 v2 v3 z1 z2 = some (rv, u1, u2) → va_P D vwCl (w_MO dA a (some (ba 0)) q1 g2 g3 g4 g5 g6 g7 (ha 0) (ca 0) g10 g11 g12 g13 g14 (xa 0) (sa 0) g17 g18 mo ++ (w_Who dA ha z1 ++ (w_Look dA ca z2 ++ (w_FTaken dA xa y_filmTaken ++ (w_FSeat dA sa y_filmSeat ++ (w_Bus dA ba bu)))))) H → va_D A (w_MO dA a (some (ba 0)) q1 g2 g3 g4 g5 g6 g7 (ha 0) (ca 0) g10 g11 g12 g13 g14 (xa 0) (sa 0) g17 g18 mo ++ (w_Who dA ha z1 ++ (w_Look dA ca z2 ++ (w_FTaken dA xa y_filmTaken ++ (w_FSeat dA sa y_filmSeat ++ (w_Bus dA ba bu)))))) → va_S A s.heap H locs → lv_has ls 5 [(0, .ref (a 0)), (1, .int v1), (2, .int v2), (3, .int v3)] → W p l e ({ frames := 5, cells := 0, slots := 0, locals := 122 } : Room) s m ([.ref (a 0), .int x0] : List Value).toArray below meth c H locs 0 0 Q (F0 m 4 ls [])) (k15 : Int32 → Int32 → Int32 → Int32 → WhoT → LookT → Option (Int32 × WhoT × LookT)) (hk15 : ∀ (v1 : Int32) (v2 : Int32) (v3 : Int32) (v4 : Int32) (z1 : WhoT) (z2 : LookT) (H : Heap) (locs : List Loc) (ls : Array Slot), k15 v1 v2 v3 v4 z1 z2 = some (rv, u1, u2) → va_P D vwCl (w_MO dA a (some (ba 0)) q1 g2 g3 g4 g5 g6 g7 (ha 0) (ca 0) g10 g11 g12 g13 g14 (xa 0) (sa 0) g17 g18 mo ++ (w_Who dA ha z1 ++ (w_Look dA ca z2 ++ (w_FTaken dA xa y_filmTaken ++ (w_FSeat dA sa y_filmSeat ++ (w_Bus dA ba bu)))))) H → va_D A (w_MO dA a (some (ba 0)) q1 g2 g3 g4 g5 g6 g7 (ha 0) (ca 0) g10 g11 g12 g13 g14 (xa 0) (sa 0) g17 g18 mo ++ (w_Who dA ha z1 ++ (w_Look dA ca z2 ++ (w_FTaken dA xa y_filmTaken ++ (w_FSeat dA sa y_filmSeat ++ (w_Bus dA ba bu)))))) → va_S A s.heap H locs → lv_has ls 5 [(0, .ref (a 0)), (1, .int v1), (2, .int v2), (3, .int v3), (4, .int v4)] → W p l e ({ frames := 5, cells := 0, slots := 0, locals := 122 } : Room) s m ([.ref (a 0), .int x0] : List Value).toArray below meth c H locs 0 0 Q (F0 m 15 ls [])) (v1 : Int32) (v2 : Int32) (v3 : Int32) (v4 : Int32) (z1 : WhoT) (z2 : LookT) (H : Heap) (locs : List Loc) (ls : Array Slot), f_X12_agreeing_b58 mo y_filmTaken y_filmSeat bu k4 k15 v1 v2 v3 v4 z1 z2 = some (rv, u1, u2) → va_P D vwCl (w_MO dA a (some (ba 0)) q1 g2 g3 g4 g5 g6 g7 (ha 0) (ca 0) g10 g11 g12 g13 g14 (xa 0) (sa 0) g17 g18 mo ++ (w_Who dA ha z1 ++ (w_Look dA ca z2 ++ (w_FTaken dA xa y_filmTaken ++ (w_FSeat dA sa y_filmSeat ++ (w_Bus dA ba bu)))))) H → va_D A (w_MO dA a (some (ba 0)) q1 g2 g3 g4 g5 g6 g7 (ha 0) (ca 0) g10 g11 g12 g13 g14 (xa 0) (sa 0) g17 g18 mo ++ (w_Who dA ha z1 ++ (w_Look dA ca z2 ++ (w_FTaken dA xa y_filmTaken ++ (w_FSeat dA sa y_filmSeat ++ (w_Bus dA ba bu)))))) → va_S A s.heap H locs → lv_has ls 5 [(0, .ref (a 0)), (1, .int v1), (2, .int v2), (3, .int v3), (4, .int v4)] → W p l e ({ frames := 5, cells := 0, slots := 0, locals := 122 } : Room) s m ([.ref (a 0), .int x0] : List Value).toArray below meth c H locs 0 0 Q (F0 m 58 ls []) := by
    intro k4 hk4 k15 hk15 v1 v2 v3 v4 z1 z2 H locs ls hf hP hD hS hl
    rw [f_X12_agreeing_b58] at hf
    refine lv_iinc (v := (v4 + (1 : Int32))) (lv' := [(4, .int (v4 + (1 : Int32))), (0, .ref (a 0)), (1, .int v1), (2, .int v2), (3, .int v3)]) hx hb dX12_agreeing_58 hl (k := 4) rfl (by rfl) (by decide) rfl (fun ls hl => ?_)
    refine lv_goto (tgt := 15) hx hb dX12_agreeing_61 (by decide) ?_
    exact hk15 _ _ _ _ _ _ _ _ _ hf hP hD hS (lv_sub hl [1, 2, 3, 4, 0] rfl)
  have B_50 : ∀ (k4 : Int32 → Int32 → Int32 → WhoT → LookT → Option (Int32 × WhoT × LookT)) (hk4 : ∀ (v1 : Int32) (v2 : Int32) (v3 : Int32) (z1 : WhoT) (z2 : LookT) (H : Heap) (locs : List Loc) (ls : Array Slot), k4 v1 v2 v3 z1 z2 = some (rv, u1, u2) → va_P D vwCl (w_MO dA a (some (ba 0)) q1 g2 g3 g4 g5 g6 g7 (ha 0) (ca 0) g10 g11 g12 g13 g14 (xa 0) (sa 0) g17 g18 mo ++ (w_Who dA ha z1 ++ (w_Look dA ca z2 ++ (w_FTaken dA xa y_filmTaken ++ (w_FSeat dA sa y_filmSeat ++ (w_Bus dA ba bu)))))) H → va_D A (w_MO dA a (some (ba 0)) q1 g2 g3 g4 g5 g6 g7 (ha 0) (ca 0) g10 g11 g12 g13 g14 (xa 0) (sa 0) g17 g18 mo ++ (w_Who dA ha z1 ++ (w_Look dA ca z2 ++ (w_FTaken dA xa y_filmTaken ++ (w_FSeat dA sa y_filmSeat ++ (w_Bus dA ba bu)))))) → va_S A s.heap H locs → lv_has ls 5 [(0, .ref (a 0)), (1, .int v1), (2, .int v2), (3, .int v3)] → W p l e ({ frames := 5, cells := 0, slots := 0, locals := 122 } : Room) s m ([.ref (a 0), .int x0] : List Value).toArray below meth c H locs 0 0 Q (F0 m 4 ls [])) (k15 : Int32 → Int32 → Int32 → Int32 → WhoT → LookT → Option (Int32 × WhoT × LookT)) (hk15 : ∀ (v1 : Int32) (v2 : Int32) (v3 : Int32) (v4 : Int32) (z1 : WhoT) (z2 : LookT) (H : Heap) (locs : List Loc) (ls : Array Slot), k15 v1 v2 v3 v4 z1 z2 = some (rv, u1, u2) → va_P D vwCl (w_MO dA a (some (ba 0)) q1 g2 g3 g4 g5 g6 g7 (ha 0) (ca 0) g10 g11 g12 g13 g14 (xa 0) (sa 0) g17 g18 mo ++ (w_Who dA ha z1 ++ (w_Look dA ca z2 ++ (w_FTaken dA xa y_filmTaken ++ (w_FSeat dA sa y_filmSeat ++ (w_Bus dA ba bu)))))) H → va_D A (w_MO dA a (some (ba 0)) q1 g2 g3 g4 g5 g6 g7 (ha 0) (ca 0) g10 g11 g12 g13 g14 (xa 0) (sa 0) g17 g18 mo ++ (w_Who dA ha z1 ++ (w_Look dA ca z2 ++ (w_FTaken dA xa y_filmTaken ++ (w_FSeat dA sa y_filmSeat ++ (w_Bus dA ba bu)))))) → va_S A s.heap H locs → lv_has ls 5 [(0, .ref (a 0)), (1, .int v1), (2, .int v2), (3, .int v3), (4, .int v4)] → W p l e ({ frames := 5, cells := 0, slots := 0, locals := 122 } : Room) s m ([.ref (a 0), .int x0] : List Value).toArray below meth c H locs 0 0 Q (F0 m 15 ls [])) (v1 : Int32) (v2 : Int32) (v3 : Int32) (v4 : Int32) (z1 : WhoT) (z2 : LookT) (H : Heap) (locs : List Loc) (ls : Array Slot), f_X12_agreeing_b50 mo y_filmTaken y_filmSeat bu k4 k15 v1 v2 v3 v4 z1 z2 = some (rv, u1, u2) → va_P D vwCl (w_MO dA a (some (ba 0)) q1 g2 g3 g4 g5 g6 g7 (ha 0) (ca 0) g10 g11 g12 g13 g14 (xa 0) (sa 0) g17 g18 mo ++ (w_Who dA ha z1 ++ (w_Look dA ca z2 ++ (w_FTaken dA xa y_filmTaken ++ (w_FSeat dA sa y_filmSeat ++ (w_Bus dA ba bu)))))) H → va_D A (w_MO dA a (some (ba 0)) q1 g2 g3 g4 g5 g6 g7 (ha 0) (ca 0) g10 g11 g12 g13 g14 (xa 0) (sa 0) g17 g18 mo ++ (w_Who dA ha z1 ++ (w_Look dA ca z2 ++ (w_FTaken dA xa y_filmTaken ++ (w_FSeat dA sa y_filmSeat ++ (w_Bus dA ba bu)))))) → va_S A s.heap H locs → lv_has ls 5 [(0, .ref (a 0)), (1, .int v1), (2, .int v2), (3, .int v3), (4, .int v4)] → W p l e ({ frames := 5, cells := 0, slots := 0, locals := 122 } : Room) s m ([.ref (a 0), .int x0] : List Value).toArray below meth c H locs 0 0 Q (F0 m 50 ls []) := by
    intro k4 hk4 k15 hk15 v1 v2 v3 v4 z1 z2 H locs ls hf hP hD hS hl
    rw [f_X12_agreeing_b50] at hf
    refine lv_aload_n hx hb dX12_agreeing_50 rfl (lv_at hl 0 rfl) ?_
    refine va_get (D := D) (ci := 12) (v := .ref (ca 0)) (C := RX12) (T := TX12) (N := 35) hx hb hts kb_inX12 hown hK.1 hP 0 rfl rfl 23 (by decide) (hK.2.w ww_5_223 rfl _) (fun _ h9 => h9) rfl dX12_agreeing_51 ?_
    refine lv_iload hx hb dX12_agreeing_54 (lv_at hl 4 rfl) ?_
    refine lv_iconst (v := (5 : Int32)) hx hb dX12_agreeing_56 (by decide) ?_
    obtain ⟨h_13, hf⟩ := kb_if hf
    refine va_iast (D := D) hx hb hK.1 hP hD hS 2 0 rfl rfl h_13 dX12_agreeing_57 (fun H locs hP hD hS => ?_)
    have hP : va_P D vwCl (w_MO dA a (some (ba 0)) q1 g2 g3 g4 g5 g6 g7 (ha 0) (ca 0) g10 g11 g12 g13 g14 (xa 0) (sa 0) g17 g18 mo ++ (w_Who dA ha z1 ++ (w_Look dA ca (yLook_set_r z2 (upd (yLook_r z2) (v4).toNatClampNeg (5 : Int32))) ++ (w_FTaken dA xa y_filmTaken ++ (w_FSeat dA sa y_filmSeat ++ (w_Bus dA ba bu)))))) H := hP
    have hD : va_D A (w_MO dA a (some (ba 0)) q1 g2 g3 g4 g5 g6 g7 (ha 0) (ca 0) g10 g11 g12 g13 g14 (xa 0) (sa 0) g17 g18 mo ++ (w_Who dA ha z1 ++ (w_Look dA ca (yLook_set_r z2 (upd (yLook_r z2) (v4).toNatClampNeg (5 : Int32))) ++ (w_FTaken dA xa y_filmTaken ++ (w_FSeat dA sa y_filmSeat ++ (w_Bus dA ba bu)))))) := hD
    exact B_58 k4 hk4 k15 hk15 _ _ _ _ _ _ _ _ _ hf hP hD hS (lv_sub hl [0, 1, 2, 3, 4] rfl)
  have B_49 : ∀ (k4 : Int32 → Int32 → Int32 → WhoT → LookT → Option (Int32 × WhoT × LookT)) (hk4 : ∀ (v1 : Int32) (v2 : Int32) (v3 : Int32) (z1 : WhoT) (z2 : LookT) (H : Heap) (locs : List Loc) (ls : Array Slot), k4 v1 v2 v3 z1 z2 = some (rv, u1, u2) → va_P D vwCl (w_MO dA a (some (ba 0)) q1 g2 g3 g4 g5 g6 g7 (ha 0) (ca 0) g10 g11 g12 g13 g14 (xa 0) (sa 0) g17 g18 mo ++ (w_Who dA ha z1 ++ (w_Look dA ca z2 ++ (w_FTaken dA xa y_filmTaken ++ (w_FSeat dA sa y_filmSeat ++ (w_Bus dA ba bu)))))) H → va_D A (w_MO dA a (some (ba 0)) q1 g2 g3 g4 g5 g6 g7 (ha 0) (ca 0) g10 g11 g12 g13 g14 (xa 0) (sa 0) g17 g18 mo ++ (w_Who dA ha z1 ++ (w_Look dA ca z2 ++ (w_FTaken dA xa y_filmTaken ++ (w_FSeat dA sa y_filmSeat ++ (w_Bus dA ba bu)))))) → va_S A s.heap H locs → lv_has ls 5 [(0, .ref (a 0)), (1, .int v1), (2, .int v2), (3, .int v3)] → W p l e ({ frames := 5, cells := 0, slots := 0, locals := 122 } : Room) s m ([.ref (a 0), .int x0] : List Value).toArray below meth c H locs 0 0 Q (F0 m 4 ls [])) (k15 : Int32 → Int32 → Int32 → Int32 → WhoT → LookT → Option (Int32 × WhoT × LookT)) (hk15 : ∀ (v1 : Int32) (v2 : Int32) (v3 : Int32) (v4 : Int32) (z1 : WhoT) (z2 : LookT) (H : Heap) (locs : List Loc) (ls : Array Slot), k15 v1 v2 v3 v4 z1 z2 = some (rv, u1, u2) → va_P D vwCl (w_MO dA a (some (ba 0)) q1 g2 g3 g4 g5 g6 g7 (ha 0) (ca 0) g10 g11 g12 g13 g14 (xa 0) (sa 0) g17 g18 mo ++ (w_Who dA ha z1 ++ (w_Look dA ca z2 ++ (w_FTaken dA xa y_filmTaken ++ (w_FSeat dA sa y_filmSeat ++ (w_Bus dA ba bu)))))) H → va_D A (w_MO dA a (some (ba 0)) q1 g2 g3 g4 g5 g6 g7 (ha 0) (ca 0) g10 g11 g12 g13 g14 (xa 0) (sa 0) g17 g18 mo ++ (w_Who dA ha z1 ++ (w_Look dA ca z2 ++ (w_FTaken dA xa y_filmTaken ++ (w_FSeat dA sa y_filmSeat ++ (w_Bus dA ba bu)))))) → va_S A s.heap H locs → lv_has ls 5 [(0, .ref (a 0)), (1, .int v1), (2, .int v2), (3, .int v3), (4, .int v4)] → W p l e ({ frames := 5, cells := 0, slots := 0, locals := 122 } : Room) s m ([.ref (a 0), .int x0] : List Value).toArray below meth c H locs 0 0 Q (F0 m 15 ls [])) (v1 : Int32) (v2 : Int32) (v3 : Int32) (v4 : Int32) (s0 : Int32) (s1 : Int32) (z1 : WhoT) (z2 : LookT) (H : Heap) (locs : List Loc) (ls : Array Slot), f_X12_agreeing_b49 mo y_filmTaken y_filmSeat bu k4 k15 v1 v2 v3 v4 s0 s1 z1 z2 = some (rv, u1, u2) → va_P D vwCl (w_MO dA a (some (ba 0)) q1 g2 g3 g4 g5 g6 g7 (ha 0) (ca 0) g10 g11 g12 g13 g14 (xa 0) (sa 0) g17 g18 mo ++ (w_Who dA ha z1 ++ (w_Look dA ca z2 ++ (w_FTaken dA xa y_filmTaken ++ (w_FSeat dA sa y_filmSeat ++ (w_Bus dA ba bu)))))) H → va_D A (w_MO dA a (some (ba 0)) q1 g2 g3 g4 g5 g6 g7 (ha 0) (ca 0) g10 g11 g12 g13 g14 (xa 0) (sa 0) g17 g18 mo ++ (w_Who dA ha z1 ++ (w_Look dA ca z2 ++ (w_FTaken dA xa y_filmTaken ++ (w_FSeat dA sa y_filmSeat ++ (w_Bus dA ba bu)))))) → va_S A s.heap H locs → lv_has ls 5 [(0, .ref (a 0)), (1, .int v1), (2, .int v2), (3, .int v3), (4, .int v4)] → W p l e ({ frames := 5, cells := 0, slots := 0, locals := 122 } : Room) s m ([.ref (a 0), .int x0] : List Value).toArray below meth c H locs 0 0 Q (F0 m 49 ls [.int s0, .int s1, .ref (ha 0)]) := by
    intro k4 hk4 k15 hk15 v1 v2 v3 v4 s0 s1 z1 z2 H locs ls hf hP hD hS hl
    rw [f_X12_agreeing_b49] at hf
    obtain ⟨h_12, hf⟩ := kb_if hf
    refine va_iast (D := D) hx hb hK.1 hP hD hS 1 0 rfl rfl h_12 dX12_agreeing_49 (fun H locs hP hD hS => ?_)
    have hP : va_P D vwCl (w_MO dA a (some (ba 0)) q1 g2 g3 g4 g5 g6 g7 (ha 0) (ca 0) g10 g11 g12 g13 g14 (xa 0) (sa 0) g17 g18 mo ++ (w_Who dA ha (yWho_set_r z1 (upd (yWho_r z1) (s1).toNatClampNeg s0)) ++ (w_Look dA ca z2 ++ (w_FTaken dA xa y_filmTaken ++ (w_FSeat dA sa y_filmSeat ++ (w_Bus dA ba bu)))))) H := hP
    have hD : va_D A (w_MO dA a (some (ba 0)) q1 g2 g3 g4 g5 g6 g7 (ha 0) (ca 0) g10 g11 g12 g13 g14 (xa 0) (sa 0) g17 g18 mo ++ (w_Who dA ha (yWho_set_r z1 (upd (yWho_r z1) (s1).toNatClampNeg s0)) ++ (w_Look dA ca z2 ++ (w_FTaken dA xa y_filmTaken ++ (w_FSeat dA sa y_filmSeat ++ (w_Bus dA ba bu)))))) := hD
    exact B_50 k4 hk4 k15 hk15 _ _ _ _ _ _ _ _ _ hf hP hD hS (lv_sub hl [0, 1, 2, 3, 4] rfl)
  have B_15 : ∀ (k4 : Int32 → Int32 → Int32 → WhoT → LookT → Option (Int32 × WhoT × LookT)) (hk4 : ∀ (v1 : Int32) (v2 : Int32) (v3 : Int32) (z1 : WhoT) (z2 : LookT) (H : Heap) (locs : List Loc) (ls : Array Slot), k4 v1 v2 v3 z1 z2 = some (rv, u1, u2) → va_P D vwCl (w_MO dA a (some (ba 0)) q1 g2 g3 g4 g5 g6 g7 (ha 0) (ca 0) g10 g11 g12 g13 g14 (xa 0) (sa 0) g17 g18 mo ++ (w_Who dA ha z1 ++ (w_Look dA ca z2 ++ (w_FTaken dA xa y_filmTaken ++ (w_FSeat dA sa y_filmSeat ++ (w_Bus dA ba bu)))))) H → va_D A (w_MO dA a (some (ba 0)) q1 g2 g3 g4 g5 g6 g7 (ha 0) (ca 0) g10 g11 g12 g13 g14 (xa 0) (sa 0) g17 g18 mo ++ (w_Who dA ha z1 ++ (w_Look dA ca z2 ++ (w_FTaken dA xa y_filmTaken ++ (w_FSeat dA sa y_filmSeat ++ (w_Bus dA ba bu)))))) → va_S A s.heap H locs → lv_has ls 5 [(0, .ref (a 0)), (1, .int v1), (2, .int v2), (3, .int v3)] → W p l e ({ frames := 5, cells := 0, slots := 0, locals := 122 } : Room) s m ([.ref (a 0), .int x0] : List Value).toArray below meth c H locs 0 0 Q (F0 m 4 ls [])) (n : Nat) (v1 : Int32) (v2 : Int32) (v3 : Int32) (v4 : Int32) (z1 : WhoT) (z2 : LookT) (H : Heap) (locs : List Loc) (ls : Array Slot), f_X12_agreeing_b15 mo y_filmTaken y_filmSeat bu k4 n v1 v2 v3 v4 z1 z2 = some (rv, u1, u2) → va_P D vwCl (w_MO dA a (some (ba 0)) q1 g2 g3 g4 g5 g6 g7 (ha 0) (ca 0) g10 g11 g12 g13 g14 (xa 0) (sa 0) g17 g18 mo ++ (w_Who dA ha z1 ++ (w_Look dA ca z2 ++ (w_FTaken dA xa y_filmTaken ++ (w_FSeat dA sa y_filmSeat ++ (w_Bus dA ba bu)))))) H → va_D A (w_MO dA a (some (ba 0)) q1 g2 g3 g4 g5 g6 g7 (ha 0) (ca 0) g10 g11 g12 g13 g14 (xa 0) (sa 0) g17 g18 mo ++ (w_Who dA ha z1 ++ (w_Look dA ca z2 ++ (w_FTaken dA xa y_filmTaken ++ (w_FSeat dA sa y_filmSeat ++ (w_Bus dA ba bu)))))) → va_S A s.heap H locs → lv_has ls 5 [(0, .ref (a 0)), (1, .int v1), (2, .int v2), (3, .int v3), (4, .int v4)] → W p l e ({ frames := 5, cells := 0, slots := 0, locals := 122 } : Room) s m ([.ref (a 0), .int x0] : List Value).toArray below meth c H locs 0 0 Q (F0 m 15 ls []) := by
    intro k4 hk4 n
    induction n with
    | zero =>
      intro v1 v2 v3 v4 z1 z2 H locs ls hf
      exact absurd hf (by simp [f_X12_agreeing_b15])
    | succ n ih =>
      intro v1 v2 v3 v4 z1 z2 H locs ls hf hP hD hS hl
      rw [f_X12_agreeing_b15] at hf
      refine lv_iload hx hb dX12_agreeing_15 (lv_at hl 4 rfl) ?_
      refine lv_bipush (v := (20 : Int32)) hx hb dX12_agreeing_17 (by decide) ?_
      refine lv_icmp_ge (tgt := 64) hx hb dX12_agreeing_19 (by decide) (fun c_2 => ?_) (fun c_2 => ?_)
      · rw [if_pos c_2] at hf
        refine lv_iload_n hx hb dX12_agreeing_64 rfl (lv_at hl 2 rfl) ?_
        refine lv_aload_n hx hb dX12_agreeing_65 rfl (lv_at hl 0 rfl) ?_
        refine lv_aload_n hx hb dX12_agreeing_66 rfl (lv_at hl 0 rfl) ?_
        obtain ⟨r3, hc3, hf⟩ := kb_bind hf
        refine kb_ci (ws2 := (w_MO dA a (some (ba 0)) q1 g2 g3 g4 g5 g6 g7 (ha 0) (ca 0) g10 g11 g12 g13 g14 (xa 0) (sa 0) g17 g18 mo ++ (w_Who dA ha z1 ++ (w_Look dA ca z2 ++ (w_FTaken dA xa y_filmTaken ++ (w_FSeat dA sa y_filmSeat ++ (w_Bus dA ba bu))))))) (kb_rV (n := 0) (As := []) (rest := [.ref (a 0), .int v2]) hx hb hml hown hK (c_X12_allSeats l D dA H.size a ba q1 g2 g3 g4 g5 g6 g7 (ha 0) (ca 0) g10 g11 g12 g13 g14 (xa 0) (sa 0) g17 g18 mo bu r3 hc3) ⟨ww_8_118, ww_8_115, ww_8_117, ws_107, ww_1_12, rfl, by decide, by decide⟩ rfl rfl (by decide +kernel) ⟨Nat.le_of_ble_eq_true rfl, Nat.le_of_ble_eq_true rfl⟩ hP hD hS hA hE [0, 5, 6, 7, 8, 9, 10, 11, 12, 13, 14, 15, 16, 17, 18, 19, 20] rfl (by decide) 0 rfl rfl rfl hl.1 rfl (Nat.le_of_ble_eq_true rfl) dX12_agreeing_67 ⟨Nat.le_of_ble_eq_true rfl, Nat.le_of_ble_eq_true rfl⟩) hP hD hS hA [0, 5, 6, 7, 8, 9, 10, 11, 12, 13, 14, 15, 16, 17, 18, 19, 20] [1, 2, 3, 4] [4, 0, 1, 2, 3, 5, 6, 7, 8, 9, 10, 11, 12, 13, 14, 15, 16, 17, 18, 19, 20] rfl rfl (by decide) (by decide) rfl (by decide) (fun H locs hP hD hS => ?_)
        refine lv_aload_n hx hb dX12_agreeing_70 rfl (lv_at hl 0 rfl) ?_
        refine va_get (D := D) (ci := 12) (v := .ref (xa 0)) (C := RX12) (T := TX12) (N := 35) hx hb hts kb_inX12 hown hK.1 hP 0 rfl rfl 31 (by decide) (hK.2.w ww_5_231 rfl _) (fun _ h9 => h9) rfl dX12_agreeing_71 ?_
        refine lv_iload_n hx hb dX12_agreeing_74 rfl (lv_at hl 3 rfl) ?_
        obtain ⟨h_4, hf⟩ := kb_if hf
        refine va_iald (D := D) hx hb hK.1 hP 3 0 rfl rfl h_4 dX12_agreeing_75 ?_
        refine lv_iconst (v := (-1 : Int32)) hx hb dX12_agreeing_76 (by decide) ?_
        refine lv_ixor hx hb dX12_agreeing_77 ?_
        refine lv_iand hx hb dX12_agreeing_78 ?_
        refine lv_iload_n hx hb dX12_agreeing_79 rfl (lv_at hl 1 rfl) ?_
        refine lv_bipush (v := (-2 : Int32)) hx hb dX12_agreeing_80 (by decide) ?_
        refine lv_iconst (v := (5 : Int32)) hx hb dX12_agreeing_82 (by decide) ?_
        obtain ⟨r5, hc5, hf⟩ := kb_bind hf
        refine kb_ci (ws2 := (w_MO dA a (some (ba 0)) q1 g2 g3 g4 g5 g6 g7 (ha 0) (ca 0) g10 g11 g12 g13 g14 (xa 0) (sa 0) g17 g18 mo ++ (w_Who dA ha z1 ++ (w_Look dA ca z2 ++ (w_FTaken dA xa y_filmTaken ++ (w_FSeat dA sa y_filmSeat ++ (w_Bus dA ba bu))))))) (kb_rV (n := 4) (As := [.int (r3 &&& (((yFTaken_r y_filmTaken) (v3).toNatClampNeg) ^^^ (-1 : Int32))), .int v1, .int (-2 : Int32), .int (5 : Int32)]) (rest := [.int v2]) hx hb hml hown hK (c_X12_best l D dA H.size a ha ca ba q1 g2 g3 g4 g5 g6 g7 g10 g11 g12 g13 g14 (xa 0) (sa 0) g17 g18 mo z1 z2 bu (r3 &&& (((yFTaken_r y_filmTaken) (v3).toNatClampNeg) ^^^ (-1 : Int32))) v1 (-2 : Int32) (5 : Int32) r5 hc5) ⟨ww_7_210, ww_7_207, ww_7_209, ws_91, ww_1_12, rfl, by decide, by decide⟩ rfl rfl (by decide +kernel) ⟨Nat.le_of_ble_eq_true rfl, Nat.le_of_ble_eq_true rfl⟩ hP hD hS hA hE [0, 1, 2, 5, 6, 7, 8, 9, 10, 11, 12, 13, 14, 15, 16, 17, 18, 19, 20] rfl (by decide) 0 rfl rfl rfl hl.1 rfl (Nat.le_of_ble_eq_true rfl) dX12_agreeing_83 ⟨Nat.le_of_ble_eq_true rfl, Nat.le_of_ble_eq_true rfl⟩) hP hD hS hA [0, 1, 2, 5, 6, 7, 8, 9, 10, 11, 12, 13, 14, 15, 16, 17, 18, 19, 20] [3, 4] [2, 3, 4, 0, 1, 5, 6, 7, 8, 9, 10, 11, 12, 13, 14, 15, 16, 17, 18, 19, 20] rfl rfl (by decide) (by decide) rfl (by decide) (fun H locs hP hD hS => ?_)
        refine lv_aload_n hx hb dX12_agreeing_86 rfl (lv_at hl 0 rfl) ?_
        refine va_get (D := D) (ci := 12) (v := .ref (sa 0)) (C := RX12) (T := TX12) (N := 35) hx hb hts kb_inX12 hown hK.1 hP 0 rfl rfl 32 (by decide) (hK.2.w ww_5_232 rfl _) (fun _ h9 => h9) rfl dX12_agreeing_87 ?_
        refine lv_iload_n hx hb dX12_agreeing_90 rfl (lv_at hl 3 rfl) ?_
        obtain ⟨h_6, hf⟩ := kb_if hf
        refine va_iald (D := D) hx hb hK.1 hP 4 0 rfl rfl h_6 dX12_agreeing_91 ?_
        obtain ⟨r7, hc7, hf⟩ := kb_bind hf
        refine kb_ci (ws2 := (w_MO dA a (some (ba 0)) q1 g2 g3 g4 g5 g6 g7 (ha 0) (ca 0) g10 g11 g12 g13 g14 (xa 0) (sa 0) g17 g18 mo ++ (w_Who dA ha z1 ++ (w_Look dA ca z2 ++ (w_FTaken dA xa y_filmTaken ++ (w_FSeat dA sa y_filmSeat ++ (w_Bus dA ba bu))))))) (kb_rS (n := 2) (As := [.int r5, .int ((yFSeat_r y_filmSeat) (v3).toNatClampNeg)]) (rest := [.int v2]) hx hb hml hown hK (c_X12_has l D dA H.size r5 ((yFSeat_r y_filmSeat) (v3).toNatClampNeg) r7 hc7) ⟨ww_7_182, ww_7_180, ww_7_181, ww_1_12, by decide, by decide⟩ rfl rfl (by decide +kernel) ⟨Nat.le_of_ble_eq_true rfl, Nat.le_of_ble_eq_true rfl⟩ hP hD hS hA hE [] rfl (by decide) rfl hl.1 rfl (Nat.le_of_ble_eq_true rfl) dX12_agreeing_92 ⟨Nat.le_of_ble_eq_true rfl, Nat.le_of_ble_eq_true rfl⟩) hP hD hS hA [] [0, 1, 2, 3, 4, 5, 6, 7, 8, 9, 10, 11, 12, 13, 14, 15, 16, 17, 18, 19, 20] [0, 1, 2, 3, 4, 5, 6, 7, 8, 9, 10, 11, 12, 13, 14, 15, 16, 17, 18, 19, 20] rfl rfl (by decide) (by decide) rfl (by decide) (fun H locs hP hD hS => ?_)
        refine lv_if_eq (tgt := 102) hx hb dX12_agreeing_95 (by decide) (fun c_8 => ?_) (fun c_8 => ?_)
        · rw [if_pos c_8] at hf
          refine lv_iconst (v := (0 : Int32)) hx hb dX12_agreeing_102 (by decide) ?_
          refine lv_iadd hx hb dX12_agreeing_103 ?_
          refine lv_istore_n (lv' := [(2, .int (v2 + (0 : Int32))), (0, .ref (a 0)), (1, .int v1), (3, .int v3), (4, .int v4)]) hx hb dX12_agreeing_104 rfl hl (by decide) rfl (fun ls hl => ?_)
          refine lv_iinc (v := (v3 + (1 : Int32))) (lv' := [(3, .int (v3 + (1 : Int32))), (2, .int (v2 + (0 : Int32))), (0, .ref (a 0)), (1, .int v1), (4, .int v4)]) hx hb dX12_agreeing_105 hl (k := 3) rfl (by rfl) (by decide) rfl (fun ls hl => ?_)
          refine lv_goto (tgt := 4) hx hb dX12_agreeing_108 (by decide) ?_
          exact hk4 _ _ _ _ _ _ _ _ hf hP hD hS (lv_sub hl [2, 3, 1, 0] rfl)
        · rw [if_neg c_8] at hf
          refine lv_iconst (v := (1 : Int32)) hx hb dX12_agreeing_98 (by decide) ?_
          refine lv_goto (tgt := 103) hx hb dX12_agreeing_99 (by decide) ?_
          refine lv_iadd hx hb dX12_agreeing_103 ?_
          refine lv_istore_n (lv' := [(2, .int (v2 + (1 : Int32))), (0, .ref (a 0)), (1, .int v1), (3, .int v3), (4, .int v4)]) hx hb dX12_agreeing_104 rfl hl (by decide) rfl (fun ls hl => ?_)
          refine lv_iinc (v := (v3 + (1 : Int32))) (lv' := [(3, .int (v3 + (1 : Int32))), (2, .int (v2 + (1 : Int32))), (0, .ref (a 0)), (1, .int v1), (4, .int v4)]) hx hb dX12_agreeing_105 hl (k := 3) rfl (by rfl) (by decide) rfl (fun ls hl => ?_)
          refine lv_goto (tgt := 4) hx hb dX12_agreeing_108 (by decide) ?_
          exact hk4 _ _ _ _ _ _ _ _ hf hP hD hS (lv_sub hl [2, 3, 1, 0] rfl)
      · rw [if_neg c_2] at hf
        refine lv_aload_n hx hb dX12_agreeing_22 rfl (lv_at hl 0 rfl) ?_
        refine va_get (D := D) (ci := 12) (v := .ref (ha 0)) (C := RX12) (T := TX12) (N := 35) hx hb hts kb_inX12 hown hK.1 hP 0 rfl rfl 22 (by decide) (hK.2.w ww_5_222 rfl _) (fun _ h9 => h9) rfl dX12_agreeing_23 ?_
        refine lv_iload hx hb dX12_agreeing_26 (lv_at hl 4 rfl) ?_
        refine lv_aload_n hx hb dX12_agreeing_28 rfl (lv_at hl 0 rfl) ?_
        refine va_get (D := D) (ci := 12) (v := .ref (xa 0)) (C := RX12) (T := TX12) (N := 35) hx hb hts kb_inX12 hown hK.1 hP 0 rfl rfl 31 (by decide) (hK.2.w ww_5_231 rfl _) (fun _ h9 => h9) rfl dX12_agreeing_29 ?_
        refine lv_iload_n hx hb dX12_agreeing_32 rfl (lv_at hl 3 rfl) ?_
        obtain ⟨h_9, hf⟩ := kb_if hf
        refine va_iald (D := D) hx hb hK.1 hP 3 0 rfl rfl h_9 dX12_agreeing_33 ?_
        refine lv_iload hx hb dX12_agreeing_34 (lv_at hl 4 rfl) ?_
        obtain ⟨r10, hc10, hf⟩ := kb_bind hf
        refine kb_ci (ws2 := (w_MO dA a (some (ba 0)) q1 g2 g3 g4 g5 g6 g7 (ha 0) (ca 0) g10 g11 g12 g13 g14 (xa 0) (sa 0) g17 g18 mo ++ (w_Who dA ha z1 ++ (w_Look dA ca z2 ++ (w_FTaken dA xa y_filmTaken ++ (w_FSeat dA sa y_filmSeat ++ (w_Bus dA ba bu))))))) (kb_rS (n := 2) (As := [.int ((yFTaken_r y_filmTaken) (v3).toNatClampNeg), .int v4]) (rest := [.int v4, .ref (ha 0)]) hx hb hml hown hK (c_X12_has l D dA H.size ((yFTaken_r y_filmTaken) (v3).toNatClampNeg) v4 r10 hc10) ⟨ww_7_182, ww_7_180, ww_7_181, ww_1_12, by decide, by decide⟩ rfl rfl (by decide +kernel) ⟨Nat.le_of_ble_eq_true rfl, Nat.le_of_ble_eq_true rfl⟩ hP hD hS hA hE [] rfl (by decide) rfl hl.1 rfl (Nat.le_of_ble_eq_true rfl) dX12_agreeing_36 ⟨Nat.le_of_ble_eq_true rfl, Nat.le_of_ble_eq_true rfl⟩) hP hD hS hA [] [0, 1, 2, 3, 4, 5, 6, 7, 8, 9, 10, 11, 12, 13, 14, 15, 16, 17, 18, 19, 20] [0, 1, 2, 3, 4, 5, 6, 7, 8, 9, 10, 11, 12, 13, 14, 15, 16, 17, 18, 19, 20] rfl rfl (by decide) (by decide) rfl (by decide) (fun H locs hP hD hS => ?_)
        refine lv_if_eq (tgt := 47) hx hb dX12_agreeing_39 (by decide) (fun c_11 => ?_) (fun c_11 => ?_)
        · rw [if_pos c_11] at hf
          refine lv_bipush (v := (-2 : Int32)) hx hb dX12_agreeing_47 (by decide) ?_
          exact B_49 k4 hk4 (f_X12_agreeing_b15 mo y_filmTaken y_filmSeat bu k4 n) ih _ _ _ _ _ _ _ _ _ _ _ hf hP hD hS (lv_sub hl [0, 1, 2, 3, 4] rfl)
        · rw [if_neg c_11] at hf
          refine lv_bipush (v := (99 : Int32)) hx hb dX12_agreeing_42 (by decide) ?_
          refine lv_goto (tgt := 49) hx hb dX12_agreeing_44 (by decide) ?_
          exact B_49 k4 hk4 (f_X12_agreeing_b15 mo y_filmTaken y_filmSeat bu k4 n) ih _ _ _ _ _ _ _ _ _ _ _ hf hP hD hS (lv_sub hl [0, 1, 2, 3, 4] rfl)
  have B_4 : ∀ (n : Nat) (v1 : Int32) (v2 : Int32) (v3 : Int32) (z1 : WhoT) (z2 : LookT) (H : Heap) (locs : List Loc) (ls : Array Slot), f_X12_agreeing_b4 mo y_filmTaken y_filmSeat bu n v1 v2 v3 z1 z2 = some (rv, u1, u2) → va_P D vwCl (w_MO dA a (some (ba 0)) q1 g2 g3 g4 g5 g6 g7 (ha 0) (ca 0) g10 g11 g12 g13 g14 (xa 0) (sa 0) g17 g18 mo ++ (w_Who dA ha z1 ++ (w_Look dA ca z2 ++ (w_FTaken dA xa y_filmTaken ++ (w_FSeat dA sa y_filmSeat ++ (w_Bus dA ba bu)))))) H → va_D A (w_MO dA a (some (ba 0)) q1 g2 g3 g4 g5 g6 g7 (ha 0) (ca 0) g10 g11 g12 g13 g14 (xa 0) (sa 0) g17 g18 mo ++ (w_Who dA ha z1 ++ (w_Look dA ca z2 ++ (w_FTaken dA xa y_filmTaken ++ (w_FSeat dA sa y_filmSeat ++ (w_Bus dA ba bu)))))) → va_S A s.heap H locs → lv_has ls 5 [(0, .ref (a 0)), (1, .int v1), (2, .int v2), (3, .int v3)] → W p l e ({ frames := 5, cells := 0, slots := 0, locals := 122 } : Room) s m ([.ref (a 0), .int x0] : List Value).toArray below meth c H locs 0 0 Q (F0 m 4 ls []) := by
    intro n
    induction n with
    | zero =>
      intro v1 v2 v3 z1 z2 H locs ls hf
      exact absurd hf (by simp [f_X12_agreeing_b4])
    | succ n ih =>
      intro v1 v2 v3 z1 z2 H locs ls hf hP hD hS hl
      rw [f_X12_agreeing_b4] at hf
      refine lv_iload_n hx hb dX12_agreeing_4 rfl (lv_at hl 3 rfl) ?_
      refine lv_aload_n hx hb dX12_agreeing_5 rfl (lv_at hl 0 rfl) ?_
      refine va_get (D := D) (ci := 12) (v := .int (mo_films mo)) (C := RX12) (T := TX12) (N := 35) hx hb hts kb_inX12 hown hK.1 hP 0 rfl rfl 30 (by decide) (hK.2.w ww_5_230 rfl _) (fun _ h9 => h9) rfl dX12_agreeing_6 ?_
      refine lv_icmp_ge (tgt := 111) hx hb dX12_agreeing_9 (by decide) (fun c_1 => ?_) (fun c_1 => ?_)
      · rw [if_pos c_1] at hf
        refine lv_iload_n hx hb dX12_agreeing_111 rfl (lv_at hl 2 rfl) ?_
        exact RET _ _ _ H _ ls 112 hf hP hD hS dX12_agreeing_112
      · rw [if_neg c_1] at hf
        refine lv_iconst (v := (0 : Int32)) hx hb dX12_agreeing_12 (by decide) ?_
        refine lv_istore (lv' := [(4, .int (0 : Int32)), (0, .ref (a 0)), (1, .int v1), (2, .int v2), (3, .int v3)]) hx hb dX12_agreeing_13 hl (by decide) rfl (fun ls hl => ?_)
        exact B_15 (f_X12_agreeing_b4 mo y_filmTaken y_filmSeat bu n) ih 4096 _ _ _ _ _ _ _ _ _ hf hP hD hS (lv_sub hl [1, 2, 3, 4, 0] rfl)
  have E0 : ∀ (H : Heap) (locs : List Loc), va_P D vwCl (w_MO dA a (some (ba 0)) q1 g2 g3 g4 g5 g6 g7 (ha 0) (ca 0) g10 g11 g12 g13 g14 (xa 0) (sa 0) g17 g18 mo ++ (w_Who dA ha y_who ++ (w_Look dA ca y_look ++ (w_FTaken dA xa y_filmTaken ++ (w_FSeat dA sa y_filmSeat ++ (w_Bus dA ba bu)))))) H → va_D A (w_MO dA a (some (ba 0)) q1 g2 g3 g4 g5 g6 g7 (ha 0) (ca 0) g10 g11 g12 g13 g14 (xa 0) (sa 0) g17 g18 mo ++ (w_Who dA ha y_who ++ (w_Look dA ca y_look ++ (w_FTaken dA xa y_filmTaken ++ (w_FSeat dA sa y_filmSeat ++ (w_Bus dA ba bu)))))) → va_S A s.heap H locs → W p l e ({ frames := 5, cells := 0, slots := 0, locals := 122 } : Room) s m ([.ref (a 0), .int x0] : List Value).toArray below meth c H locs 0 0 Q (F0 m 0 ls []) := by
    intro H locs hP hD hS
    rw [f_X12_agreeing] at hf
    refine lv_iconst (v := (0 : Int32)) hx hb dX12_agreeing_0 (by decide) ?_
    refine lv_istore_n (lv' := [(2, .int (0 : Int32)), (0, .ref (a 0)), (1, .int x0)]) hx hb dX12_agreeing_1 rfl hl (by decide) rfl (fun ls hl => ?_)
    refine lv_iconst (v := (0 : Int32)) hx hb dX12_agreeing_2 (by decide) ?_
    refine lv_istore_n (lv' := [(3, .int (0 : Int32)), (2, .int (0 : Int32)), (0, .ref (a 0)), (1, .int x0)]) hx hb dX12_agreeing_3 rfl hl (by decide) rfl (fun ls hl => ?_)
    exact B_4 4096 _ _ _ _ _ _ _ _ hf hP hD hS (lv_sub hl [2, 3, 1, 0] rfl)
  exact E0 _ _ hP hD hS

noncomputable def f_X12_isRule_b26 (mo : MOT) (bu : BusT)  : Option (Int32) := some ((0 : Int32))
noncomputable def f_X12_isRule (mo : MOT) (bu : BusT) (x0 : Int32) : Option (Int32) := (if x0 < 0 then f_X12_isRule_b26 mo bu  else (if (bu_rules bu) ≤ x0 then f_X12_isRule_b26 mo bu  else some ((1 : Int32))))
set_option maxHeartbeats 4000000 in
set_option maxRecDepth 100000 in
theorem c_X12_isRule (l : Launch) (D : va_G) (dA : Nat → ClassId) (sz : Nat) (a : Nat → Nat) (ba : Nat → Nat) (q1 : Option Nat) (g2 : Nat) (g3 : Nat) (g4 : Nat) (g5 : Nat) (g6 : Nat) (g7 : Nat) (g8 : Nat) (g9 : Nat) (g10 : Nat) (g11 : Nat) (g12 : Nat) (g13 : Nat) (g14 : Nat) (g15 : Nat) (g16 : Nat) (g17 : Nat) (g18 : Nat) (mo : MOT) (bu : BusT) (x0 : Int32) (rv : Int32) (hf : f_X12_isRule mo bu x0 = some (rv)) : kb_Mi l yX12_isRule cX12_isRule 2 (some .boolean) ({ frames := 0, cells := 0, slots := 0, locals := 0 } : Room) D dA [.ref (a 0), .int x0] sz (w_MO dA a (some (ba 0)) q1 g2 g3 g4 g5 g6 g7 g8 g9 g10 g11 g12 g13 g14 g15 g16 g17 g18 mo ++ (w_Bus dA ba bu)) 0 0 rv (w_MO dA a (some (ba 0)) q1 g2 g3 g4 g5 g6 g7 g8 g9 g10 g11 g12 g13 g14 g15 g16 g17 g18 mo ++ (w_Bus dA ba bu)) := by
  refine Met.ofW (cc := cX12_isRule) (maxL := 2) (ret := (some .boolean)) (by decide) rfl ?_
  intro p e s m args below meth c s₁ B hml hv
  obtain ⟨rfl, hsz, hP, hK, hD0, hE⟩ := hv
  have hx := B.exec
  have hb := B.bytes
  have hr := B.returns
  have hown : s.vm.findClass RX12 = some m.cls := findClass_of_methodNamed B.named
  have hlocks := B.notSynchronized
  have hts : ∀ w ∈ kb_gw, w.before ([.ref (a 0), .int x0] : List Value).toArray s = true := fun w hw => hK.2.1 w hw _
  subst hsz
  have hD := hD0.self (sz := s.heap.size)
  generalize hAe : va_A (w_MO dA a (some (ba 0)) q1 g2 g3 g4 g5 g6 g7 g8 g9 g10 g11 g12 g13 g14 g15 g16 g17 g18 mo ++ (w_Bus dA ba bu)) s.heap.size = A at hD hE ⊢
  have hA : ∀ q : Nat, s.heap.size ≤ q → A q := fun q h => by rw [← hAe]; exact Or.inr h
  have hS : va_S A s.heap s.heap [] := va_S.rf
  have hl := lv_entry ([.ref (a 0), .int x0]) (n := 2) (Nat.le_of_ble_eq_true rfl)
  rw [lg_entry_eq]
  generalize (lg_sl ([.ref (a 0), .int x0]) ++ List.replicate (2 - (lg_sl ([.ref (a 0), .int x0])).length) Slot.unset).toArray = ls at hl ⊢
  have hl : lv_has ls 2 [(0, .ref (a 0)), (1, .int x0)] := hl
  generalize hQ : MQ below (va_Qi (fun r (_ : Unit) => r = rv) (kb_B D A (w_MO dA a (some (ba 0)) q1 g2 g3 g4 g5 g6 g7 g8 g9 g10 g11 g12 g13 g14 g15 g16 g17 g18 mo ++ (w_Bus dA ba bu))) A) ([.ref (a 0), .int x0] : List Value).toArray s 0 0 A = Q
  show W p l e ({ frames := 0, cells := 0, slots := 0, locals := 0 } : Room) s m ([.ref (a 0), .int x0] : List Value).toArray below meth c s.heap [] 0 0 Q (F0 m 0 ls [])
  have RET : ∀ (r2 : Int32) (H : Heap) (locs : List Loc) (ls : Array Slot) (pc : Nat), some (r2) = some (rv) → va_P D vwCl (w_MO dA a (some (ba 0)) q1 g2 g3 g4 g5 g6 g7 g8 g9 g10 g11 g12 g13 g14 g15 g16 g17 g18 mo ++ (w_Bus dA ba bu)) H → va_D A (w_MO dA a (some (ba 0)) q1 g2 g3 g4 g5 g6 g7 g8 g9 g10 g11 g12 g13 g14 g15 g16 g17 g18 mo ++ (w_Bus dA ba bu)) → va_S A s.heap H locs → kb_01 r2 → decode cX12_isRule pc = .ok (.ireturn, 1) → W p l e ({ frames := 0, cells := 0, slots := 0, locals := 0 } : Room) s m ([.ref (a 0), .int x0] : List Value).toArray below meth c H locs 0 0 Q (F0 m pc ls [.int r2]) := by
    intro r2 H locs ls pc hq hP hD hS h01 hd
    cases hq
    rw [← hQ]
    exact W.zret (ty := .boolean) hx hb hr (kb_nz h01) (fun t ht hW => ⟨⟨_, (), rfl, rfl, by rw [ht]; exact hP, hD⟩, hS.F ht⟩) hS.2.2 hd
  have B_26 : ∀  (H : Heap) (locs : List Loc) (ls : Array Slot), f_X12_isRule_b26 mo bu  = some (rv) → va_P D vwCl (w_MO dA a (some (ba 0)) q1 g2 g3 g4 g5 g6 g7 g8 g9 g10 g11 g12 g13 g14 g15 g16 g17 g18 mo ++ (w_Bus dA ba bu)) H → va_D A (w_MO dA a (some (ba 0)) q1 g2 g3 g4 g5 g6 g7 g8 g9 g10 g11 g12 g13 g14 g15 g16 g17 g18 mo ++ (w_Bus dA ba bu)) → va_S A s.heap H locs → lv_has ls 2 [] → W p l e ({ frames := 0, cells := 0, slots := 0, locals := 0 } : Room) s m ([.ref (a 0), .int x0] : List Value).toArray below meth c H locs 0 0 Q (F0 m 26 ls []) := by
    intro  H locs ls hf hP hD hS hl
    rw [f_X12_isRule_b26] at hf
    refine lv_iconst (v := (0 : Int32)) hx hb dX12_isRule_26 (by decide) ?_
    exact RET _ H _ ls 27 hf hP hD hS (by decide) dX12_isRule_27
  have E0 : ∀ (H : Heap) (locs : List Loc), va_P D vwCl (w_MO dA a (some (ba 0)) q1 g2 g3 g4 g5 g6 g7 g8 g9 g10 g11 g12 g13 g14 g15 g16 g17 g18 mo ++ (w_Bus dA ba bu)) H → va_D A (w_MO dA a (some (ba 0)) q1 g2 g3 g4 g5 g6 g7 g8 g9 g10 g11 g12 g13 g14 g15 g16 g17 g18 mo ++ (w_Bus dA ba bu)) → va_S A s.heap H locs → W p l e ({ frames := 0, cells := 0, slots := 0, locals := 0 } : Room) s m ([.ref (a 0), .int x0] : List Value).toArray below meth c H locs 0 0 Q (F0 m 0 ls []) := by
    intro H locs hP hD hS
    rw [f_X12_isRule] at hf
    refine lv_aload_n hx hb dX12_isRule_0 rfl (lv_at hl 0 rfl) ?_
    refine va_get (D := D) (ci := 12) (v := .ref (ba 0)) (C := RX12) (T := TX12) (N := 35) hx hb hts kb_inX12 hown hK.1 hP 0 rfl rfl 3 (by decide) (hK.2.w ww_5_203 rfl _) (fun _ h9 => h9) rfl dX12_isRule_1 ?_
    refine lv_ifnull hx hb dX12_isRule_4 ?_
    refine lv_iload_n hx hb dX12_isRule_7 rfl (lv_at hl 1 rfl) ?_
    refine lv_if_lt (tgt := 26) hx hb dX12_isRule_8 (by decide) (fun c_1 => ?_) (fun c_1 => ?_)
    · rw [if_pos c_1] at hf
      exact B_26 _ _ _ hf hP hD hS (lv_sub hl [] rfl)
    · rw [if_neg c_1] at hf
      refine lv_iload_n hx hb dX12_isRule_11 rfl (lv_at hl 1 rfl) ?_
      refine lv_aload_n hx hb dX12_isRule_12 rfl (lv_at hl 0 rfl) ?_
      refine va_get (D := D) (ci := 12) (v := .ref (ba 0)) (C := RX12) (T := TX12) (N := 35) hx hb hts kb_inX12 hown hK.1 hP 0 rfl rfl 3 (by decide) (hK.2.w ww_5_203 rfl _) (fun _ h9 => h9) rfl dX12_isRule_13 ?_
      refine va_getN (D := D) (ci := 11) (v := .int (bu_rules bu)) (C := RX11) (T := TX11) (N := 26) hx hb hts kb_inX11 hown hK.1 hP 1 rfl rfl 6 (by decide) (hK.2.nb ww_6_95 rfl rfl _) (fun _ h9 => h9) rfl dX12_isRule_16 ?_
      refine lv_icmp_ge (tgt := 26) hx hb dX12_isRule_19 (by decide) (fun c_2 => ?_) (fun c_2 => ?_)
      · rw [if_pos c_2] at hf
        exact B_26 _ _ _ hf hP hD hS (lv_sub hl [] rfl)
      · rw [if_neg c_2] at hf
        refine lv_iconst (v := (1 : Int32)) hx hb dX12_isRule_22 (by decide) ?_
        refine lv_goto (tgt := 27) hx hb dX12_isRule_23 (by decide) ?_
        exact RET _ H _ ls 27 hf hP hD hS (by decide) dX12_isRule_27
  exact E0 _ _ hP hD hS

noncomputable def f_X12_agrees_b5 (y_filmTaken : FTakenT) (y_filmSeat : FSeatT) (bu : BusT) (v1 : Int32) (z0 : MOT) (z1 : WhoT) (z2 : LookT) : Option (Int32 × MOT × WhoT × LookT) := (f_X12_isRule z0 bu v1).bind fun r1 => (if r1 = 0 then (f_X12_refused z0 (1 : Int32)).bind fun r3 => some (r3.1, r3.2, z1, z2) else (f_X12_agreeing z0 z1 z2 y_filmTaken y_filmSeat bu v1).bind fun r4 => (f_X12_done z0 r4.1).bind fun r5 => some (r5.1, r5.2, r4.2.1, r4.2.2))
noncomputable def f_X12_agrees (mo : MOT) (y_who : WhoT) (y_look : LookT) (y_filmTaken : FTakenT) (y_filmSeat : FSeatT) (bu : BusT) (x0 : Int32) : Option (Int32 × MOT × WhoT × LookT) := f_X12_agrees_b5 y_filmTaken y_filmSeat bu x0 (mo_set_thrown mo (0 : Int32)) y_who y_look
set_option maxHeartbeats 4000000 in
set_option maxRecDepth 100000 in
theorem c_X12_agrees (l : Launch) (D : va_G) (dA : Nat → ClassId) (sz : Nat) (a : Nat → Nat) (ha : Nat → Nat) (ca : Nat → Nat) (xa : Nat → Nat) (sa : Nat → Nat) (ba : Nat → Nat) (q1 : Option Nat) (g2 : Nat) (g3 : Nat) (g4 : Nat) (g5 : Nat) (g6 : Nat) (g7 : Nat) (g10 : Nat) (g11 : Nat) (g12 : Nat) (g13 : Nat) (g14 : Nat) (g17 : Nat) (g18 : Nat) (mo : MOT) (y_who : WhoT) (y_look : LookT) (y_filmTaken : FTakenT) (y_filmSeat : FSeatT) (bu : BusT) (x0 : Int32) (rv : Int32) (u0 : MOT) (u1 : WhoT) (u2 : LookT) (hf : f_X12_agrees mo y_who y_look y_filmTaken y_filmSeat bu x0 = some (rv, u0, u1, u2)) : kb_Mi l yX12_agrees cX12_agrees 2 (some .int) ({ frames := 6, cells := 0, slots := 0, locals := 146 } : Room) D dA [.ref (a 0), .int x0] sz (w_MO dA a (some (ba 0)) q1 g2 g3 g4 g5 g6 g7 (ha 0) (ca 0) g10 g11 g12 g13 g14 (xa 0) (sa 0) g17 g18 mo ++ (w_Who dA ha y_who ++ (w_Look dA ca y_look ++ (w_FTaken dA xa y_filmTaken ++ (w_FSeat dA sa y_filmSeat ++ (w_Bus dA ba bu)))))) 0 0 rv (w_MO dA a (some (ba 0)) q1 g2 g3 g4 g5 g6 g7 (ha 0) (ca 0) g10 g11 g12 g13 g14 (xa 0) (sa 0) g17 g18 u0 ++ (w_Who dA ha u1 ++ (w_Look dA ca u2 ++ (w_FTaken dA xa y_filmTaken ++ (w_FSeat dA sa y_filmSeat ++ (w_Bus dA ba bu)))))) := by
  refine Met.ofW (cc := cX12_agrees) (maxL := 2) (ret := (some .int)) (by decide) rfl ?_
  intro p e s m args below meth c s₁ B hml hv
  obtain ⟨rfl, hsz, hP, hK, hD0, hE⟩ := hv
  have hx := B.exec
  have hb := B.bytes
  have hr := B.returns
  have hown : s.vm.findClass RX12 = some m.cls := findClass_of_methodNamed B.named
  have hlocks := B.notSynchronized
  have hts : ∀ w ∈ kb_gw, w.before ([.ref (a 0), .int x0] : List Value).toArray s = true := fun w hw => hK.2.1 w hw _
  subst hsz
  have hD := hD0.self (sz := s.heap.size)
  generalize hAe : va_A (w_MO dA a (some (ba 0)) q1 g2 g3 g4 g5 g6 g7 (ha 0) (ca 0) g10 g11 g12 g13 g14 (xa 0) (sa 0) g17 g18 mo ++ (w_Who dA ha y_who ++ (w_Look dA ca y_look ++ (w_FTaken dA xa y_filmTaken ++ (w_FSeat dA sa y_filmSeat ++ (w_Bus dA ba bu)))))) s.heap.size = A at hD hE ⊢
  have hA : ∀ q : Nat, s.heap.size ≤ q → A q := fun q h => by rw [← hAe]; exact Or.inr h
  have hS : va_S A s.heap s.heap [] := va_S.rf
  have hl := lv_entry ([.ref (a 0), .int x0]) (n := 2) (Nat.le_of_ble_eq_true rfl)
  rw [lg_entry_eq]
  generalize (lg_sl ([.ref (a 0), .int x0]) ++ List.replicate (2 - (lg_sl ([.ref (a 0), .int x0])).length) Slot.unset).toArray = ls at hl ⊢
  have hl : lv_has ls 2 [(0, .ref (a 0)), (1, .int x0)] := hl
  generalize hQ : MQ below (va_Qi (fun r (_ : Unit) => r = rv) (kb_B D A (w_MO dA a (some (ba 0)) q1 g2 g3 g4 g5 g6 g7 (ha 0) (ca 0) g10 g11 g12 g13 g14 (xa 0) (sa 0) g17 g18 u0 ++ (w_Who dA ha u1 ++ (w_Look dA ca u2 ++ (w_FTaken dA xa y_filmTaken ++ (w_FSeat dA sa y_filmSeat ++ (w_Bus dA ba bu))))))) A) ([.ref (a 0), .int x0] : List Value).toArray s 0 0 A = Q
  show W p l e ({ frames := 6, cells := 0, slots := 0, locals := 146 } : Room) s m ([.ref (a 0), .int x0] : List Value).toArray below meth c s.heap [] 0 0 Q (F0 m 0 ls [])
  have RET : ∀ (r2 : Int32) (w0 : MOT) (w1 : WhoT) (w2 : LookT) (H : Heap) (locs : List Loc) (ls : Array Slot) (pc : Nat), some (r2, w0, w1, w2) = some (rv, u0, u1, u2) → va_P D vwCl (w_MO dA a (some (ba 0)) q1 g2 g3 g4 g5 g6 g7 (ha 0) (ca 0) g10 g11 g12 g13 g14 (xa 0) (sa 0) g17 g18 w0 ++ (w_Who dA ha w1 ++ (w_Look dA ca w2 ++ (w_FTaken dA xa y_filmTaken ++ (w_FSeat dA sa y_filmSeat ++ (w_Bus dA ba bu)))))) H → va_D A (w_MO dA a (some (ba 0)) q1 g2 g3 g4 g5 g6 g7 (ha 0) (ca 0) g10 g11 g12 g13 g14 (xa 0) (sa 0) g17 g18 w0 ++ (w_Who dA ha w1 ++ (w_Look dA ca w2 ++ (w_FTaken dA xa y_filmTaken ++ (w_FSeat dA sa y_filmSeat ++ (w_Bus dA ba bu)))))) → va_S A s.heap H locs → decode cX12_agrees pc = .ok (.ireturn, 1) → W p l e ({ frames := 6, cells := 0, slots := 0, locals := 146 } : Room) s m ([.ref (a 0), .int x0] : List Value).toArray below meth c H locs 0 0 Q (F0 m pc ls [.int r2]) := by
    intro r2 w0 w1 w2 H locs ls pc hq hP hD hS hd
    cases hq
    rw [← hQ]
    exact W.iret hx hb hr (fun t ht hW => ⟨⟨_, (), rfl, rfl, by rw [ht]; exact hP, hD⟩, hS.F ht⟩) hS.2.2 hd
  have B_5 : ∀ (v1 : Int32) (z0 : MOT) (z1 : WhoT) (z2 : LookT) (H : Heap) (locs : List Loc) (ls : Array Slot), f_X12_agrees_b5 y_filmTaken y_filmSeat bu v1 z0 z1 z2 = some (rv, u0, u1, u2) → va_P D vwCl (w_MO dA a (some (ba 0)) q1 g2 g3 g4 g5 g6 g7 (ha 0) (ca 0) g10 g11 g12 g13 g14 (xa 0) (sa 0) g17 g18 z0 ++ (w_Who dA ha z1 ++ (w_Look dA ca z2 ++ (w_FTaken dA xa y_filmTaken ++ (w_FSeat dA sa y_filmSeat ++ (w_Bus dA ba bu)))))) H → va_D A (w_MO dA a (some (ba 0)) q1 g2 g3 g4 g5 g6 g7 (ha 0) (ca 0) g10 g11 g12 g13 g14 (xa 0) (sa 0) g17 g18 z0 ++ (w_Who dA ha z1 ++ (w_Look dA ca z2 ++ (w_FTaken dA xa y_filmTaken ++ (w_FSeat dA sa y_filmSeat ++ (w_Bus dA ba bu)))))) → va_S A s.heap H locs → lv_has ls 2 [(0, .ref (a 0)), (1, .int v1)] → W p l e ({ frames := 6, cells := 0, slots := 0, locals := 146 } : Room) s m ([.ref (a 0), .int x0] : List Value).toArray below meth c H locs 0 0 Q (F0 m 5 ls []) := by
    intro v1 z0 z1 z2 H locs ls hf hP hD hS hl
    rw [f_X12_agrees_b5] at hf
    refine lv_aload_n hx hb dX12_agrees_5 rfl (lv_at hl 0 rfl) ?_
    refine lv_iload_n hx hb dX12_agrees_6 rfl (lv_at hl 1 rfl) ?_
    obtain ⟨r1, hc1, hf⟩ := kb_bind hf
    refine kb_ci (ws2 := (w_MO dA a (some (ba 0)) q1 g2 g3 g4 g5 g6 g7 (ha 0) (ca 0) g10 g11 g12 g13 g14 (xa 0) (sa 0) g17 g18 z0 ++ (w_Who dA ha z1 ++ (w_Look dA ca z2 ++ (w_FTaken dA xa y_filmTaken ++ (w_FSeat dA sa y_filmSeat ++ (w_Bus dA ba bu))))))) (kb_rV (n := 1) (As := [.int v1]) (rest := []) hx hb hml hown hK (c_X12_isRule l D dA H.size a ba q1 g2 g3 g4 g5 g6 g7 (ha 0) (ca 0) g10 g11 g12 g13 g14 (xa 0) (sa 0) g17 g18 z0 bu v1 r1 hc1) ⟨ww_8_146, ww_8_143, ww_8_145, ws_111, ww_1_12, rfl, by decide, by decide⟩ rfl rfl (by decide +kernel) ⟨Nat.le_of_ble_eq_true rfl, Nat.le_of_ble_eq_true rfl⟩ hP hD hS hA hE [0, 5, 6, 7, 8, 9, 10, 11, 12, 13, 14, 15, 16, 17, 18, 19, 20] rfl (by decide) 0 rfl rfl rfl hl.1 rfl (Nat.le_of_ble_eq_true rfl) dX12_agrees_7 ⟨Nat.le_of_ble_eq_true rfl, Nat.le_of_ble_eq_true rfl⟩) hP hD hS hA [0, 5, 6, 7, 8, 9, 10, 11, 12, 13, 14, 15, 16, 17, 18, 19, 20] [1, 2, 3, 4] [4, 0, 1, 2, 3, 5, 6, 7, 8, 9, 10, 11, 12, 13, 14, 15, 16, 17, 18, 19, 20] rfl rfl (by decide) (by decide) rfl (by decide) (fun H locs hP hD hS => ?_)
    refine lv_if_eq (tgt := 25) hx hb dX12_agrees_10 (by decide) (fun c_2 => ?_) (fun c_2 => ?_)
    · rw [if_pos c_2] at hf
      refine lv_aload_n hx hb dX12_agrees_25 rfl (lv_at hl 0 rfl) ?_
      refine lv_iconst (v := (1 : Int32)) hx hb dX12_agrees_26 (by decide) ?_
      obtain ⟨r3, hc3, hf⟩ := kb_bind hf
      refine kb_ci (ws2 := (w_MO dA a (some (ba 0)) q1 g2 g3 g4 g5 g6 g7 (ha 0) (ca 0) g10 g11 g12 g13 g14 (xa 0) (sa 0) g17 g18 r3.2 ++ (w_Who dA ha z1 ++ (w_Look dA ca z2 ++ (w_FTaken dA xa y_filmTaken ++ (w_FSeat dA sa y_filmSeat ++ (w_Bus dA ba bu))))))) (kb_rV (n := 1) (As := [.int (1 : Int32)]) (rest := []) hx hb hml hown hK (c_X12_refused l D dA H.size a (some (ba 0)) q1 g2 g3 g4 g5 g6 g7 (ha 0) (ca 0) g10 g11 g12 g13 g14 (xa 0) (sa 0) g17 g18 z0 (1 : Int32) r3.1 r3.2 hc3) ⟨ww_6_82, ww_6_79, ww_6_81, ws_46, ww_1_12, rfl, by decide, by decide⟩ rfl rfl (by decide +kernel) ⟨Nat.le_of_ble_eq_true rfl, Nat.le_of_ble_eq_true rfl⟩ hP hD hS hA hE [0] rfl (by decide) 0 rfl rfl rfl hl.1 rfl (Nat.le_of_ble_eq_true rfl) dX12_agrees_27 ⟨Nat.le_of_ble_eq_true rfl, Nat.le_of_ble_eq_true rfl⟩) hP hD hS hA [0] [1, 2, 3, 4, 5, 6, 7, 8, 9, 10, 11, 12, 13, 14, 15, 16, 17, 18, 19, 20] [20, 0, 1, 2, 3, 4, 5, 6, 7, 8, 9, 10, 11, 12, 13, 14, 15, 16, 17, 18, 19] rfl rfl (by decide) (by decide) rfl (by decide) (fun H locs hP hD hS => ?_)
      exact RET _ _ _ _ H _ ls 30 hf hP hD hS dX12_agrees_30
    · rw [if_neg c_2] at hf
      refine lv_aload_n hx hb dX12_agrees_13 rfl (lv_at hl 0 rfl) ?_
      refine lv_aload_n hx hb dX12_agrees_14 rfl (lv_at hl 0 rfl) ?_
      refine lv_iload_n hx hb dX12_agrees_15 rfl (lv_at hl 1 rfl) ?_
      obtain ⟨r4, hc4, hf⟩ := kb_bind hf
      refine kb_ci (ws2 := (w_MO dA a (some (ba 0)) q1 g2 g3 g4 g5 g6 g7 (ha 0) (ca 0) g10 g11 g12 g13 g14 (xa 0) (sa 0) g17 g18 z0 ++ (w_Who dA ha r4.2.1 ++ (w_Look dA ca r4.2.2 ++ (w_FTaken dA xa y_filmTaken ++ (w_FSeat dA sa y_filmSeat ++ (w_Bus dA ba bu))))))) (kb_rV (n := 1) (As := [.int v1]) (rest := [.ref (a 0)]) hx hb hml hown hK (c_X12_agreeing l D dA H.size a ha ca xa sa ba q1 g2 g3 g4 g5 g6 g7 g10 g11 g12 g13 g14 g17 g18 z0 z1 z2 y_filmTaken y_filmSeat bu v1 r4.1 r4.2.1 r4.2.2 hc4) ⟨ww_8_150, ww_8_147, ww_8_149, ws_112, ww_1_12, rfl, by decide, by decide⟩ rfl rfl (by decide +kernel) ⟨Nat.le_of_ble_eq_true rfl, Nat.le_of_ble_eq_true rfl⟩ hP hD hS hA hE [0, 1, 2, 3, 4, 5, 6, 7, 8, 9, 10, 11, 12, 13, 14, 15, 16, 17, 18, 19, 20] rfl (by decide) 0 rfl rfl rfl hl.1 rfl (Nat.le_of_ble_eq_true rfl) dX12_agrees_16 ⟨Nat.le_of_ble_eq_true rfl, Nat.le_of_ble_eq_true rfl⟩) hP hD hS hA [0, 1, 2, 3, 4, 5, 6, 7, 8, 9, 10, 11, 12, 13, 14, 15, 16, 17, 18, 19, 20] [] [0, 1, 2, 3, 4, 5, 6, 7, 8, 9, 10, 11, 12, 13, 14, 15, 16, 17, 18, 19, 20] rfl rfl (by decide) (by decide) rfl (by decide) (fun H locs hP hD hS => ?_)
      obtain ⟨r5, hc5, hf⟩ := kb_bind hf
      refine kb_ci (ws2 := (w_MO dA a (some (ba 0)) q1 g2 g3 g4 g5 g6 g7 (ha 0) (ca 0) g10 g11 g12 g13 g14 (xa 0) (sa 0) g17 g18 r5.2 ++ (w_Who dA ha r4.2.1 ++ (w_Look dA ca r4.2.2 ++ (w_FTaken dA xa y_filmTaken ++ (w_FSeat dA sa y_filmSeat ++ (w_Bus dA ba bu))))))) (kb_rV (n := 1) (As := [.int r4.1]) (rest := []) hx hb hml hown hK (c_X12_done l D dA H.size a (some (ba 0)) q1 g2 g3 g4 g5 g6 g7 (ha 0) (ca 0) g10 g11 g12 g13 g14 (xa 0) (sa 0) g17 g18 z0 r4.1 r5.1 r5.2 hc5) ⟨ww_7_100, ww_7_97, ww_7_99, ws_71, ww_1_12, rfl, by decide, by decide⟩ rfl rfl (by decide +kernel) ⟨Nat.le_of_ble_eq_true rfl, Nat.le_of_ble_eq_true rfl⟩ hP hD hS hA hE [0] rfl (by decide) 0 rfl rfl rfl hl.1 rfl (Nat.le_of_ble_eq_true rfl) dX12_agrees_19 ⟨Nat.le_of_ble_eq_true rfl, Nat.le_of_ble_eq_true rfl⟩) hP hD hS hA [0] [1, 2, 3, 4, 5, 6, 7, 8, 9, 10, 11, 12, 13, 14, 15, 16, 17, 18, 19, 20] [20, 0, 1, 2, 3, 4, 5, 6, 7, 8, 9, 10, 11, 12, 13, 14, 15, 16, 17, 18, 19] rfl rfl (by decide) (by decide) rfl (by decide) (fun H locs hP hD hS => ?_)
      refine lv_goto (tgt := 30) hx hb dX12_agrees_22 (by decide) ?_
      exact RET _ _ _ _ H _ ls 30 hf hP hD hS dX12_agrees_30
  have E0 : ∀ (H : Heap) (locs : List Loc), va_P D vwCl (w_MO dA a (some (ba 0)) q1 g2 g3 g4 g5 g6 g7 (ha 0) (ca 0) g10 g11 g12 g13 g14 (xa 0) (sa 0) g17 g18 mo ++ (w_Who dA ha y_who ++ (w_Look dA ca y_look ++ (w_FTaken dA xa y_filmTaken ++ (w_FSeat dA sa y_filmSeat ++ (w_Bus dA ba bu)))))) H → va_D A (w_MO dA a (some (ba 0)) q1 g2 g3 g4 g5 g6 g7 (ha 0) (ca 0) g10 g11 g12 g13 g14 (xa 0) (sa 0) g17 g18 mo ++ (w_Who dA ha y_who ++ (w_Look dA ca y_look ++ (w_FTaken dA xa y_filmTaken ++ (w_FSeat dA sa y_filmSeat ++ (w_Bus dA ba bu)))))) → va_S A s.heap H locs → W p l e ({ frames := 6, cells := 0, slots := 0, locals := 146 } : Room) s m ([.ref (a 0), .int x0] : List Value).toArray below meth c H locs 0 0 Q (F0 m 0 ls []) := by
    intro H locs hP hD hS
    rw [f_X12_agrees] at hf
    refine lv_aload_n hx hb dX12_agrees_0 rfl (lv_at hl 0 rfl) ?_
    refine lv_iconst (v := (0 : Int32)) hx hb dX12_agrees_1 (by decide) ?_
    refine va_put (D := D) (ci := 12) (v := .int (0 : Int32)) (ty := .int) (C := RX12) (T := TX12) (N := 35) hx hb hts kb_inX12 tyX12 tyX12_ok nmX12 hown hK.1 hP hD hS 0 rfl rfl 0 (by decide) (hK.2.w ww_5_200 rfl _) (fun _ h9 => h9) rfl (by decide +kernel) rfl rfl (Nat.le_of_ble_eq_true rfl) dX12_agrees_2 (fun H locs hP hD hS => ?_)
    have hP : va_P D vwCl (w_MO dA a (some (ba 0)) q1 g2 g3 g4 g5 g6 g7 (ha 0) (ca 0) g10 g11 g12 g13 g14 (xa 0) (sa 0) g17 g18 (mo_set_thrown mo (0 : Int32)) ++ (w_Who dA ha y_who ++ (w_Look dA ca y_look ++ (w_FTaken dA xa y_filmTaken ++ (w_FSeat dA sa y_filmSeat ++ (w_Bus dA ba bu)))))) H := hP
    have hD : va_D A (w_MO dA a (some (ba 0)) q1 g2 g3 g4 g5 g6 g7 (ha 0) (ca 0) g10 g11 g12 g13 g14 (xa 0) (sa 0) g17 g18 (mo_set_thrown mo (0 : Int32)) ++ (w_Who dA ha y_who ++ (w_Look dA ca y_look ++ (w_FTaken dA xa y_filmTaken ++ (w_FSeat dA sa y_filmSeat ++ (w_Bus dA ba bu)))))) := hD
    exact B_5 _ _ _ _ _ _ _ hf hP hD hS (lv_sub hl [0, 1] rfl)
  exact E0 _ _ hP hD hS

noncomputable def f_X12_likely_b36 (y_filmTaken : FTakenT) (y_filmSeat : FSeatT) (bu : BusT) : Nat → Int32 → Int32 → MOT → WhoT → LookT → Option (Int32 × MOT × WhoT × LookT)
  | 0, _, _, _, _, _ => none
  | n + 1, v1, v2, z0, z1, z2 => (if (bu_rules bu) ≤ v2 then (f_X12_done z0 v1).bind fun r3 => some (r3.1, r3.2, z1, z2) else (f_X12_agreeing z0 z1 z2 y_filmTaken y_filmSeat bu v2).bind fun r4 => (f_X12_agreeing z0 r4.2.1 r4.2.2 y_filmTaken y_filmSeat bu v1).bind fun r5 => (if r4.1 ≤ r5.1 then f_X12_likely_b36 y_filmTaken y_filmSeat bu n v1 (v2 + (1 : Int32)) z0 r5.2.1 r5.2.2 else f_X12_likely_b36 y_filmTaken y_filmSeat bu n v2 (v2 + (1 : Int32)) z0 r5.2.1 r5.2.2))
noncomputable def f_X12_likely_b5 (y_filmTaken : FTakenT) (y_filmSeat : FSeatT) (bu : BusT) (z0 : MOT) (z1 : WhoT) (z2 : LookT) : Option (Int32 × MOT × WhoT × LookT) := (if (mo_films z0) = 0 then (f_X12_refused z0 (6 : Int32)).bind fun r7 => some (r7.1, r7.2, z1, z2) else f_X12_likely_b36 y_filmTaken y_filmSeat bu 4096 (0 : Int32) (1 : Int32) z0 z1 z2)
noncomputable def f_X12_likely (mo : MOT) (y_who : WhoT) (y_look : LookT) (y_filmTaken : FTakenT) (y_filmSeat : FSeatT) (bu : BusT) : Option (Int32 × MOT × WhoT × LookT) := f_X12_likely_b5 y_filmTaken y_filmSeat bu (mo_set_thrown mo (0 : Int32)) y_who y_look
set_option maxHeartbeats 4000000 in
set_option maxRecDepth 100000 in
theorem c_X12_likely (l : Launch) (D : va_G) (dA : Nat → ClassId) (sz : Nat) (a : Nat → Nat) (ha : Nat → Nat) (ca : Nat → Nat) (xa : Nat → Nat) (sa : Nat → Nat) (ba : Nat → Nat) (q1 : Option Nat) (g2 : Nat) (g3 : Nat) (g4 : Nat) (g5 : Nat) (g6 : Nat) (g7 : Nat) (g10 : Nat) (g11 : Nat) (g12 : Nat) (g13 : Nat) (g14 : Nat) (g17 : Nat) (g18 : Nat) (mo : MOT) (y_who : WhoT) (y_look : LookT) (y_filmTaken : FTakenT) (y_filmSeat : FSeatT) (bu : BusT) (rv : Int32) (u0 : MOT) (u1 : WhoT) (u2 : LookT) (hf : f_X12_likely mo y_who y_look y_filmTaken y_filmSeat bu = some (rv, u0, u1, u2)) : kb_Mi l yX12_likely cX12_likely 3 (some .int) ({ frames := 6, cells := 0, slots := 0, locals := 146 } : Room) D dA [.ref (a 0)] sz (w_MO dA a (some (ba 0)) q1 g2 g3 g4 g5 g6 g7 (ha 0) (ca 0) g10 g11 g12 g13 g14 (xa 0) (sa 0) g17 g18 mo ++ (w_Who dA ha y_who ++ (w_Look dA ca y_look ++ (w_FTaken dA xa y_filmTaken ++ (w_FSeat dA sa y_filmSeat ++ (w_Bus dA ba bu)))))) 0 0 rv (w_MO dA a (some (ba 0)) q1 g2 g3 g4 g5 g6 g7 (ha 0) (ca 0) g10 g11 g12 g13 g14 (xa 0) (sa 0) g17 g18 u0 ++ (w_Who dA ha u1 ++ (w_Look dA ca u2 ++ (w_FTaken dA xa y_filmTaken ++ (w_FSeat dA sa y_filmSeat ++ (w_Bus dA ba bu)))))) := by
  refine Met.ofW (cc := cX12_likely) (maxL := 3) (ret := (some .int)) (by decide) rfl ?_
  intro p e s m args below meth c s₁ B hml hv
  obtain ⟨rfl, hsz, hP, hK, hD0, hE⟩ := hv
  have hx := B.exec
  have hb := B.bytes
  have hr := B.returns
  have hown : s.vm.findClass RX12 = some m.cls := findClass_of_methodNamed B.named
  have hlocks := B.notSynchronized
  have hts : ∀ w ∈ kb_gw, w.before ([.ref (a 0)] : List Value).toArray s = true := fun w hw => hK.2.1 w hw _
  subst hsz
  have hD := hD0.self (sz := s.heap.size)
  generalize hAe : va_A (w_MO dA a (some (ba 0)) q1 g2 g3 g4 g5 g6 g7 (ha 0) (ca 0) g10 g11 g12 g13 g14 (xa 0) (sa 0) g17 g18 mo ++ (w_Who dA ha y_who ++ (w_Look dA ca y_look ++ (w_FTaken dA xa y_filmTaken ++ (w_FSeat dA sa y_filmSeat ++ (w_Bus dA ba bu)))))) s.heap.size = A at hD hE ⊢
  have hA : ∀ q : Nat, s.heap.size ≤ q → A q := fun q h => by rw [← hAe]; exact Or.inr h
  have hS : va_S A s.heap s.heap [] := va_S.rf
  have hl := lv_entry ([.ref (a 0)]) (n := 3) (Nat.le_of_ble_eq_true rfl)
  rw [lg_entry_eq]
  generalize (lg_sl ([.ref (a 0)]) ++ List.replicate (3 - (lg_sl ([.ref (a 0)])).length) Slot.unset).toArray = ls at hl ⊢
  have hl : lv_has ls 3 [(0, .ref (a 0))] := hl
  generalize hQ : MQ below (va_Qi (fun r (_ : Unit) => r = rv) (kb_B D A (w_MO dA a (some (ba 0)) q1 g2 g3 g4 g5 g6 g7 (ha 0) (ca 0) g10 g11 g12 g13 g14 (xa 0) (sa 0) g17 g18 u0 ++ (w_Who dA ha u1 ++ (w_Look dA ca u2 ++ (w_FTaken dA xa y_filmTaken ++ (w_FSeat dA sa y_filmSeat ++ (w_Bus dA ba bu))))))) A) ([.ref (a 0)] : List Value).toArray s 0 0 A = Q
  show W p l e ({ frames := 6, cells := 0, slots := 0, locals := 146 } : Room) s m ([.ref (a 0)] : List Value).toArray below meth c s.heap [] 0 0 Q (F0 m 0 ls [])
  have RET : ∀ (r2 : Int32) (w0 : MOT) (w1 : WhoT) (w2 : LookT) (H : Heap) (locs : List Loc) (ls : Array Slot) (pc : Nat), some (r2, w0, w1, w2) = some (rv, u0, u1, u2) → va_P D vwCl (w_MO dA a (some (ba 0)) q1 g2 g3 g4 g5 g6 g7 (ha 0) (ca 0) g10 g11 g12 g13 g14 (xa 0) (sa 0) g17 g18 w0 ++ (w_Who dA ha w1 ++ (w_Look dA ca w2 ++ (w_FTaken dA xa y_filmTaken ++ (w_FSeat dA sa y_filmSeat ++ (w_Bus dA ba bu)))))) H → va_D A (w_MO dA a (some (ba 0)) q1 g2 g3 g4 g5 g6 g7 (ha 0) (ca 0) g10 g11 g12 g13 g14 (xa 0) (sa 0) g17 g18 w0 ++ (w_Who dA ha w1 ++ (w_Look dA ca w2 ++ (w_FTaken dA xa y_filmTaken ++ (w_FSeat dA sa y_filmSeat ++ (w_Bus dA ba bu)))))) → va_S A s.heap H locs → decode cX12_likely pc = .ok (.ireturn, 1) → W p l e ({ frames := 6, cells := 0, slots := 0, locals := 146 } : Room) s m ([.ref (a 0)] : List Value).toArray below meth c H locs 0 0 Q (F0 m pc ls [.int r2]) := by
    intro r2 w0 w1 w2 H locs ls pc hq hP hD hS hd
    cases hq
    rw [← hQ]
    exact W.iret hx hb hr (fun t ht hW => ⟨⟨_, (), rfl, rfl, by rw [ht]; exact hP, hD⟩, hS.F ht⟩) hS.2.2 hd
  have B_36 : ∀ (n : Nat) (v1 : Int32) (v2 : Int32) (z0 : MOT) (z1 : WhoT) (z2 : LookT) (H : Heap) (locs : List Loc) (ls : Array Slot), f_X12_likely_b36 y_filmTaken y_filmSeat bu n v1 v2 z0 z1 z2 = some (rv, u0, u1, u2) → va_P D vwCl (w_MO dA a (some (ba 0)) q1 g2 g3 g4 g5 g6 g7 (ha 0) (ca 0) g10 g11 g12 g13 g14 (xa 0) (sa 0) g17 g18 z0 ++ (w_Who dA ha z1 ++ (w_Look dA ca z2 ++ (w_FTaken dA xa y_filmTaken ++ (w_FSeat dA sa y_filmSeat ++ (w_Bus dA ba bu)))))) H → va_D A (w_MO dA a (some (ba 0)) q1 g2 g3 g4 g5 g6 g7 (ha 0) (ca 0) g10 g11 g12 g13 g14 (xa 0) (sa 0) g17 g18 z0 ++ (w_Who dA ha z1 ++ (w_Look dA ca z2 ++ (w_FTaken dA xa y_filmTaken ++ (w_FSeat dA sa y_filmSeat ++ (w_Bus dA ba bu)))))) → va_S A s.heap H locs → lv_has ls 3 [(0, .ref (a 0)), (1, .int v1), (2, .int v2)] → W p l e ({ frames := 6, cells := 0, slots := 0, locals := 146 } : Room) s m ([.ref (a 0)] : List Value).toArray below meth c H locs 0 0 Q (F0 m 36 ls []) := by
    intro n
    induction n with
    | zero =>
      intro v1 v2 z0 z1 z2 H locs ls hf
      exact absurd hf (by simp [f_X12_likely_b36])
    | succ n ih =>
      intro v1 v2 z0 z1 z2 H locs ls hf hP hD hS hl
      rw [f_X12_likely_b36] at hf
      refine lv_iload_n hx hb dX12_likely_36 rfl (lv_at hl 2 rfl) ?_
      refine lv_aload_n hx hb dX12_likely_37 rfl (lv_at hl 0 rfl) ?_
      refine va_get (D := D) (ci := 12) (v := .ref (ba 0)) (C := RX12) (T := TX12) (N := 35) hx hb hts kb_inX12 hown hK.1 hP 0 rfl rfl 3 (by decide) (hK.2.w ww_5_203 rfl _) (fun _ h9 => h9) rfl dX12_likely_38 ?_
      refine va_getN (D := D) (ci := 11) (v := .int (bu_rules bu)) (C := RX11) (T := TX11) (N := 26) hx hb hts kb_inX11 hown hK.1 hP 5 rfl rfl 6 (by decide) (hK.2.nb ww_6_95 rfl rfl _) (fun _ h9 => h9) rfl dX12_likely_41 ?_
      refine lv_icmp_ge (tgt := 68) hx hb dX12_likely_44 (by decide) (fun c_2 => ?_) (fun c_2 => ?_)
      · rw [if_pos c_2] at hf
        refine lv_aload_n hx hb dX12_likely_68 rfl (lv_at hl 0 rfl) ?_
        refine lv_iload_n hx hb dX12_likely_69 rfl (lv_at hl 1 rfl) ?_
        obtain ⟨r3, hc3, hf⟩ := kb_bind hf
        refine kb_ci (ws2 := (w_MO dA a (some (ba 0)) q1 g2 g3 g4 g5 g6 g7 (ha 0) (ca 0) g10 g11 g12 g13 g14 (xa 0) (sa 0) g17 g18 r3.2 ++ (w_Who dA ha z1 ++ (w_Look dA ca z2 ++ (w_FTaken dA xa y_filmTaken ++ (w_FSeat dA sa y_filmSeat ++ (w_Bus dA ba bu))))))) (kb_rV (n := 1) (As := [.int v1]) (rest := []) hx hb hml hown hK (c_X12_done l D dA H.size a (some (ba 0)) q1 g2 g3 g4 g5 g6 g7 (ha 0) (ca 0) g10 g11 g12 g13 g14 (xa 0) (sa 0) g17 g18 z0 v1 r3.1 r3.2 hc3) ⟨ww_7_100, ww_7_97, ww_7_99, ws_71, ww_1_12, rfl, by decide, by decide⟩ rfl rfl (by decide +kernel) ⟨Nat.le_of_ble_eq_true rfl, Nat.le_of_ble_eq_true rfl⟩ hP hD hS hA hE [0] rfl (by decide) 0 rfl rfl rfl hl.1 rfl (Nat.le_of_ble_eq_true rfl) dX12_likely_70 ⟨Nat.le_of_ble_eq_true rfl, Nat.le_of_ble_eq_true rfl⟩) hP hD hS hA [0] [1, 2, 3, 4, 5, 6, 7, 8, 9, 10, 11, 12, 13, 14, 15, 16, 17, 18, 19, 20] [20, 0, 1, 2, 3, 4, 5, 6, 7, 8, 9, 10, 11, 12, 13, 14, 15, 16, 17, 18, 19] rfl rfl (by decide) (by decide) rfl (by decide) (fun H locs hP hD hS => ?_)
        exact RET _ _ _ _ H _ ls 73 hf hP hD hS dX12_likely_73
      · rw [if_neg c_2] at hf
        refine lv_aload_n hx hb dX12_likely_47 rfl (lv_at hl 0 rfl) ?_
        refine lv_iload_n hx hb dX12_likely_48 rfl (lv_at hl 2 rfl) ?_
        obtain ⟨r4, hc4, hf⟩ := kb_bind hf
        refine kb_ci (ws2 := (w_MO dA a (some (ba 0)) q1 g2 g3 g4 g5 g6 g7 (ha 0) (ca 0) g10 g11 g12 g13 g14 (xa 0) (sa 0) g17 g18 z0 ++ (w_Who dA ha r4.2.1 ++ (w_Look dA ca r4.2.2 ++ (w_FTaken dA xa y_filmTaken ++ (w_FSeat dA sa y_filmSeat ++ (w_Bus dA ba bu))))))) (kb_rV (n := 1) (As := [.int v2]) (rest := []) hx hb hml hown hK (c_X12_agreeing l D dA H.size a ha ca xa sa ba q1 g2 g3 g4 g5 g6 g7 g10 g11 g12 g13 g14 g17 g18 z0 z1 z2 y_filmTaken y_filmSeat bu v2 r4.1 r4.2.1 r4.2.2 hc4) ⟨ww_8_150, ww_8_147, ww_8_149, ws_112, ww_1_12, rfl, by decide, by decide⟩ rfl rfl (by decide +kernel) ⟨Nat.le_of_ble_eq_true rfl, Nat.le_of_ble_eq_true rfl⟩ hP hD hS hA hE [0, 1, 2, 3, 4, 5, 6, 7, 8, 9, 10, 11, 12, 13, 14, 15, 16, 17, 18, 19, 20] rfl (by decide) 0 rfl rfl rfl hl.1 rfl (Nat.le_of_ble_eq_true rfl) dX12_likely_49 ⟨Nat.le_of_ble_eq_true rfl, Nat.le_of_ble_eq_true rfl⟩) hP hD hS hA [0, 1, 2, 3, 4, 5, 6, 7, 8, 9, 10, 11, 12, 13, 14, 15, 16, 17, 18, 19, 20] [] [0, 1, 2, 3, 4, 5, 6, 7, 8, 9, 10, 11, 12, 13, 14, 15, 16, 17, 18, 19, 20] rfl rfl (by decide) (by decide) rfl (by decide) (fun H locs hP hD hS => ?_)
        refine lv_aload_n hx hb dX12_likely_52 rfl (lv_at hl 0 rfl) ?_
        refine lv_iload_n hx hb dX12_likely_53 rfl (lv_at hl 1 rfl) ?_
        obtain ⟨r5, hc5, hf⟩ := kb_bind hf
        refine kb_ci (ws2 := (w_MO dA a (some (ba 0)) q1 g2 g3 g4 g5 g6 g7 (ha 0) (ca 0) g10 g11 g12 g13 g14 (xa 0) (sa 0) g17 g18 z0 ++ (w_Who dA ha r5.2.1 ++ (w_Look dA ca r5.2.2 ++ (w_FTaken dA xa y_filmTaken ++ (w_FSeat dA sa y_filmSeat ++ (w_Bus dA ba bu))))))) (kb_rV (n := 1) (As := [.int v1]) (rest := [.int r4.1]) hx hb hml hown hK (c_X12_agreeing l D dA H.size a ha ca xa sa ba q1 g2 g3 g4 g5 g6 g7 g10 g11 g12 g13 g14 g17 g18 z0 r4.2.1 r4.2.2 y_filmTaken y_filmSeat bu v1 r5.1 r5.2.1 r5.2.2 hc5) ⟨ww_8_150, ww_8_147, ww_8_149, ws_112, ww_1_12, rfl, by decide, by decide⟩ rfl rfl (by decide +kernel) ⟨Nat.le_of_ble_eq_true rfl, Nat.le_of_ble_eq_true rfl⟩ hP hD hS hA hE [0, 1, 2, 3, 4, 5, 6, 7, 8, 9, 10, 11, 12, 13, 14, 15, 16, 17, 18, 19, 20] rfl (by decide) 0 rfl rfl rfl hl.1 rfl (Nat.le_of_ble_eq_true rfl) dX12_likely_54 ⟨Nat.le_of_ble_eq_true rfl, Nat.le_of_ble_eq_true rfl⟩) hP hD hS hA [0, 1, 2, 3, 4, 5, 6, 7, 8, 9, 10, 11, 12, 13, 14, 15, 16, 17, 18, 19, 20] [] [0, 1, 2, 3, 4, 5, 6, 7, 8, 9, 10, 11, 12, 13, 14, 15, 16, 17, 18, 19, 20] rfl rfl (by decide) (by decide) rfl (by decide) (fun H locs hP hD hS => ?_)
        refine lv_icmp_le (tgt := 62) hx hb dX12_likely_57 (by decide) (fun c_6 => ?_) (fun c_6 => ?_)
        · rw [if_pos c_6] at hf
          refine lv_iinc (v := (v2 + (1 : Int32))) (lv' := [(2, .int (v2 + (1 : Int32))), (0, .ref (a 0)), (1, .int v1)]) hx hb dX12_likely_62 hl (k := 2) rfl (by rfl) (by decide) rfl (fun ls hl => ?_)
          refine lv_goto (tgt := 36) hx hb dX12_likely_65 (by decide) ?_
          exact ih _ _ _ _ _ _ _ _ hf hP hD hS (lv_sub hl [1, 2, 0] rfl)
        · rw [if_neg c_6] at hf
          refine lv_iload_n hx hb dX12_likely_60 rfl (lv_at hl 2 rfl) ?_
          refine lv_istore_n (lv' := [(1, .int v2), (0, .ref (a 0)), (2, .int v2)]) hx hb dX12_likely_61 rfl hl (by decide) rfl (fun ls hl => ?_)
          refine lv_iinc (v := (v2 + (1 : Int32))) (lv' := [(2, .int (v2 + (1 : Int32))), (1, .int v2), (0, .ref (a 0))]) hx hb dX12_likely_62 hl (k := 2) rfl (by rfl) (by decide) rfl (fun ls hl => ?_)
          refine lv_goto (tgt := 36) hx hb dX12_likely_65 (by decide) ?_
          exact ih _ _ _ _ _ _ _ _ hf hP hD hS (lv_sub hl [2, 1, 0] rfl)
  have B_5 : ∀ (z0 : MOT) (z1 : WhoT) (z2 : LookT) (H : Heap) (locs : List Loc) (ls : Array Slot), f_X12_likely_b5 y_filmTaken y_filmSeat bu z0 z1 z2 = some (rv, u0, u1, u2) → va_P D vwCl (w_MO dA a (some (ba 0)) q1 g2 g3 g4 g5 g6 g7 (ha 0) (ca 0) g10 g11 g12 g13 g14 (xa 0) (sa 0) g17 g18 z0 ++ (w_Who dA ha z1 ++ (w_Look dA ca z2 ++ (w_FTaken dA xa y_filmTaken ++ (w_FSeat dA sa y_filmSeat ++ (w_Bus dA ba bu)))))) H → va_D A (w_MO dA a (some (ba 0)) q1 g2 g3 g4 g5 g6 g7 (ha 0) (ca 0) g10 g11 g12 g13 g14 (xa 0) (sa 0) g17 g18 z0 ++ (w_Who dA ha z1 ++ (w_Look dA ca z2 ++ (w_FTaken dA xa y_filmTaken ++ (w_FSeat dA sa y_filmSeat ++ (w_Bus dA ba bu)))))) → va_S A s.heap H locs → lv_has ls 3 [(0, .ref (a 0))] → W p l e ({ frames := 6, cells := 0, slots := 0, locals := 146 } : Room) s m ([.ref (a 0)] : List Value).toArray below meth c H locs 0 0 Q (F0 m 5 ls []) := by
    intro z0 z1 z2 H locs ls hf hP hD hS hl
    rw [f_X12_likely_b5] at hf
    refine lv_aload_n hx hb dX12_likely_5 rfl (lv_at hl 0 rfl) ?_
    refine va_get (D := D) (ci := 12) (v := .ref (ba 0)) (C := RX12) (T := TX12) (N := 35) hx hb hts kb_inX12 hown hK.1 hP 0 rfl rfl 3 (by decide) (hK.2.w ww_5_203 rfl _) (fun _ h9 => h9) rfl dX12_likely_6 ?_
    refine lv_ifnonnull (tgt := 18) hx hb dX12_likely_9 (by decide) ?_
    refine lv_aload_n hx hb dX12_likely_18 rfl (lv_at hl 0 rfl) ?_
    refine va_get (D := D) (ci := 12) (v := .int (mo_films z0)) (C := RX12) (T := TX12) (N := 35) hx hb hts kb_inX12 hown hK.1 hP 0 rfl rfl 30 (by decide) (hK.2.w ww_5_230 rfl _) (fun _ h9 => h9) rfl dX12_likely_19 ?_
    refine lv_if_ne (tgt := 32) hx hb dX12_likely_22 (by decide) (fun c_1 => ?_) (fun c_1 => ?_)
    · rw [if_neg c_1] at hf
      refine lv_iconst (v := (0 : Int32)) hx hb dX12_likely_32 (by decide) ?_
      refine lv_istore_n (lv' := [(1, .int (0 : Int32)), (0, .ref (a 0))]) hx hb dX12_likely_33 rfl hl (by decide) rfl (fun ls hl => ?_)
      refine lv_iconst (v := (1 : Int32)) hx hb dX12_likely_34 (by decide) ?_
      refine lv_istore_n (lv' := [(2, .int (1 : Int32)), (1, .int (0 : Int32)), (0, .ref (a 0))]) hx hb dX12_likely_35 rfl hl (by decide) rfl (fun ls hl => ?_)
      exact B_36 4096 _ _ _ _ _ _ _ _ hf hP hD hS (lv_sub hl [2, 1, 0] rfl)
    · rw [if_pos c_1] at hf
      refine lv_aload_n hx hb dX12_likely_25 rfl (lv_at hl 0 rfl) ?_
      refine lv_bipush (v := (6 : Int32)) hx hb dX12_likely_26 (by decide) ?_
      obtain ⟨r7, hc7, hf⟩ := kb_bind hf
      refine kb_ci (ws2 := (w_MO dA a (some (ba 0)) q1 g2 g3 g4 g5 g6 g7 (ha 0) (ca 0) g10 g11 g12 g13 g14 (xa 0) (sa 0) g17 g18 r7.2 ++ (w_Who dA ha z1 ++ (w_Look dA ca z2 ++ (w_FTaken dA xa y_filmTaken ++ (w_FSeat dA sa y_filmSeat ++ (w_Bus dA ba bu))))))) (kb_rV (n := 1) (As := [.int (6 : Int32)]) (rest := []) hx hb hml hown hK (c_X12_refused l D dA H.size a (some (ba 0)) q1 g2 g3 g4 g5 g6 g7 (ha 0) (ca 0) g10 g11 g12 g13 g14 (xa 0) (sa 0) g17 g18 z0 (6 : Int32) r7.1 r7.2 hc7) ⟨ww_6_82, ww_6_79, ww_6_81, ws_46, ww_1_12, rfl, by decide, by decide⟩ rfl rfl (by decide +kernel) ⟨Nat.le_of_ble_eq_true rfl, Nat.le_of_ble_eq_true rfl⟩ hP hD hS hA hE [0] rfl (by decide) 0 rfl rfl rfl hl.1 rfl (Nat.le_of_ble_eq_true rfl) dX12_likely_28 ⟨Nat.le_of_ble_eq_true rfl, Nat.le_of_ble_eq_true rfl⟩) hP hD hS hA [0] [1, 2, 3, 4, 5, 6, 7, 8, 9, 10, 11, 12, 13, 14, 15, 16, 17, 18, 19, 20] [20, 0, 1, 2, 3, 4, 5, 6, 7, 8, 9, 10, 11, 12, 13, 14, 15, 16, 17, 18, 19] rfl rfl (by decide) (by decide) rfl (by decide) (fun H locs hP hD hS => ?_)
      exact RET _ _ _ _ H _ ls 31 hf hP hD hS dX12_likely_31
  have E0 : ∀ (H : Heap) (locs : List Loc), va_P D vwCl (w_MO dA a (some (ba 0)) q1 g2 g3 g4 g5 g6 g7 (ha 0) (ca 0) g10 g11 g12 g13 g14 (xa 0) (sa 0) g17 g18 mo ++ (w_Who dA ha y_who ++ (w_Look dA ca y_look ++ (w_FTaken dA xa y_filmTaken ++ (w_FSeat dA sa y_filmSeat ++ (w_Bus dA ba bu)))))) H → va_D A (w_MO dA a (some (ba 0)) q1 g2 g3 g4 g5 g6 g7 (ha 0) (ca 0) g10 g11 g12 g13 g14 (xa 0) (sa 0) g17 g18 mo ++ (w_Who dA ha y_who ++ (w_Look dA ca y_look ++ (w_FTaken dA xa y_filmTaken ++ (w_FSeat dA sa y_filmSeat ++ (w_Bus dA ba bu)))))) → va_S A s.heap H locs → W p l e ({ frames := 6, cells := 0, slots := 0, locals := 146 } : Room) s m ([.ref (a 0)] : List Value).toArray below meth c H locs 0 0 Q (F0 m 0 ls []) := by
    intro H locs hP hD hS
    rw [f_X12_likely] at hf
    refine lv_aload_n hx hb dX12_likely_0 rfl (lv_at hl 0 rfl) ?_
    refine lv_iconst (v := (0 : Int32)) hx hb dX12_likely_1 (by decide) ?_
    refine va_put (D := D) (ci := 12) (v := .int (0 : Int32)) (ty := .int) (C := RX12) (T := TX12) (N := 35) hx hb hts kb_inX12 tyX12 tyX12_ok nmX12 hown hK.1 hP hD hS 0 rfl rfl 0 (by decide) (hK.2.w ww_5_200 rfl _) (fun _ h9 => h9) rfl (by decide +kernel) rfl rfl (Nat.le_of_ble_eq_true rfl) dX12_likely_2 (fun H locs hP hD hS => ?_)
    have hP : va_P D vwCl (w_MO dA a (some (ba 0)) q1 g2 g3 g4 g5 g6 g7 (ha 0) (ca 0) g10 g11 g12 g13 g14 (xa 0) (sa 0) g17 g18 (mo_set_thrown mo (0 : Int32)) ++ (w_Who dA ha y_who ++ (w_Look dA ca y_look ++ (w_FTaken dA xa y_filmTaken ++ (w_FSeat dA sa y_filmSeat ++ (w_Bus dA ba bu)))))) H := hP
    have hD : va_D A (w_MO dA a (some (ba 0)) q1 g2 g3 g4 g5 g6 g7 (ha 0) (ca 0) g10 g11 g12 g13 g14 (xa 0) (sa 0) g17 g18 (mo_set_thrown mo (0 : Int32)) ++ (w_Who dA ha y_who ++ (w_Look dA ca y_look ++ (w_FTaken dA xa y_filmTaken ++ (w_FSeat dA sa y_filmSeat ++ (w_Bus dA ba bu)))))) := hD
    exact B_5 _ _ _ _ _ _ hf hP hD hS (lv_sub hl [0] rfl)
  exact E0 _ _ hP hD hS

noncomputable def f_X12_factorial_b4 (mo : MOT) (bu : BusT) : Nat → Int32 → Int32 → Option (Int32)
  | 0, _, _ => none
  | n + 1, v1, v2 => (if (bu_riders bu) < v2 then some (v1) else f_X12_factorial_b4 mo bu n (v1 * v2) (v2 + (1 : Int32)))
noncomputable def f_X12_factorial (mo : MOT) (bu : BusT) : Option (Int32) := f_X12_factorial_b4 mo bu 4096 (1 : Int32) (2 : Int32)
set_option maxHeartbeats 4000000 in
set_option maxRecDepth 100000 in
theorem c_X12_factorial (l : Launch) (D : va_G) (dA : Nat → ClassId) (sz : Nat) (a : Nat → Nat) (ba : Nat → Nat) (q1 : Option Nat) (g2 : Nat) (g3 : Nat) (g4 : Nat) (g5 : Nat) (g6 : Nat) (g7 : Nat) (g8 : Nat) (g9 : Nat) (g10 : Nat) (g11 : Nat) (g12 : Nat) (g13 : Nat) (g14 : Nat) (g15 : Nat) (g16 : Nat) (g17 : Nat) (g18 : Nat) (mo : MOT) (bu : BusT) (rv : Int32) (hf : f_X12_factorial mo bu = some (rv)) : kb_Mi l yX12_factorial cX12_factorial 3 (some .int) ({ frames := 0, cells := 0, slots := 0, locals := 0 } : Room) D dA [.ref (a 0)] sz (w_MO dA a (some (ba 0)) q1 g2 g3 g4 g5 g6 g7 g8 g9 g10 g11 g12 g13 g14 g15 g16 g17 g18 mo ++ (w_Bus dA ba bu)) 0 0 rv (w_MO dA a (some (ba 0)) q1 g2 g3 g4 g5 g6 g7 g8 g9 g10 g11 g12 g13 g14 g15 g16 g17 g18 mo ++ (w_Bus dA ba bu)) := by
  refine Met.ofW (cc := cX12_factorial) (maxL := 3) (ret := (some .int)) (by decide) rfl ?_
  intro p e s m args below meth c s₁ B hml hv
  obtain ⟨rfl, hsz, hP, hK, hD0, hE⟩ := hv
  have hx := B.exec
  have hb := B.bytes
  have hr := B.returns
  have hown : s.vm.findClass RX12 = some m.cls := findClass_of_methodNamed B.named
  have hlocks := B.notSynchronized
  have hts : ∀ w ∈ kb_gw, w.before ([.ref (a 0)] : List Value).toArray s = true := fun w hw => hK.2.1 w hw _
  subst hsz
  have hD := hD0.self (sz := s.heap.size)
  generalize hAe : va_A (w_MO dA a (some (ba 0)) q1 g2 g3 g4 g5 g6 g7 g8 g9 g10 g11 g12 g13 g14 g15 g16 g17 g18 mo ++ (w_Bus dA ba bu)) s.heap.size = A at hD hE ⊢
  have hA : ∀ q : Nat, s.heap.size ≤ q → A q := fun q h => by rw [← hAe]; exact Or.inr h
  have hS : va_S A s.heap s.heap [] := va_S.rf
  have hl := lv_entry ([.ref (a 0)]) (n := 3) (Nat.le_of_ble_eq_true rfl)
  rw [lg_entry_eq]
  generalize (lg_sl ([.ref (a 0)]) ++ List.replicate (3 - (lg_sl ([.ref (a 0)])).length) Slot.unset).toArray = ls at hl ⊢
  have hl : lv_has ls 3 [(0, .ref (a 0))] := hl
  generalize hQ : MQ below (va_Qi (fun r (_ : Unit) => r = rv) (kb_B D A (w_MO dA a (some (ba 0)) q1 g2 g3 g4 g5 g6 g7 g8 g9 g10 g11 g12 g13 g14 g15 g16 g17 g18 mo ++ (w_Bus dA ba bu))) A) ([.ref (a 0)] : List Value).toArray s 0 0 A = Q
  show W p l e ({ frames := 0, cells := 0, slots := 0, locals := 0 } : Room) s m ([.ref (a 0)] : List Value).toArray below meth c s.heap [] 0 0 Q (F0 m 0 ls [])
  have RET : ∀ (r2 : Int32) (H : Heap) (locs : List Loc) (ls : Array Slot) (pc : Nat), some (r2) = some (rv) → va_P D vwCl (w_MO dA a (some (ba 0)) q1 g2 g3 g4 g5 g6 g7 g8 g9 g10 g11 g12 g13 g14 g15 g16 g17 g18 mo ++ (w_Bus dA ba bu)) H → va_D A (w_MO dA a (some (ba 0)) q1 g2 g3 g4 g5 g6 g7 g8 g9 g10 g11 g12 g13 g14 g15 g16 g17 g18 mo ++ (w_Bus dA ba bu)) → va_S A s.heap H locs → decode cX12_factorial pc = .ok (.ireturn, 1) → W p l e ({ frames := 0, cells := 0, slots := 0, locals := 0 } : Room) s m ([.ref (a 0)] : List Value).toArray below meth c H locs 0 0 Q (F0 m pc ls [.int r2]) := by
    intro r2 H locs ls pc hq hP hD hS hd
    cases hq
    rw [← hQ]
    exact W.iret hx hb hr (fun t ht hW => ⟨⟨_, (), rfl, rfl, by rw [ht]; exact hP, hD⟩, hS.F ht⟩) hS.2.2 hd
  have B_4 : ∀ (n : Nat) (v1 : Int32) (v2 : Int32) (H : Heap) (locs : List Loc) (ls : Array Slot), f_X12_factorial_b4 mo bu n v1 v2 = some (rv) → va_P D vwCl (w_MO dA a (some (ba 0)) q1 g2 g3 g4 g5 g6 g7 g8 g9 g10 g11 g12 g13 g14 g15 g16 g17 g18 mo ++ (w_Bus dA ba bu)) H → va_D A (w_MO dA a (some (ba 0)) q1 g2 g3 g4 g5 g6 g7 g8 g9 g10 g11 g12 g13 g14 g15 g16 g17 g18 mo ++ (w_Bus dA ba bu)) → va_S A s.heap H locs → lv_has ls 3 [(0, .ref (a 0)), (1, .int v1), (2, .int v2)] → W p l e ({ frames := 0, cells := 0, slots := 0, locals := 0 } : Room) s m ([.ref (a 0)] : List Value).toArray below meth c H locs 0 0 Q (F0 m 4 ls []) := by
    intro n
    induction n with
    | zero =>
      intro v1 v2 H locs ls hf
      exact absurd hf (by simp [f_X12_factorial_b4])
    | succ n ih =>
      intro v1 v2 H locs ls hf hP hD hS hl
      rw [f_X12_factorial_b4] at hf
      refine lv_iload_n hx hb dX12_factorial_4 rfl (lv_at hl 2 rfl) ?_
      refine lv_aload_n hx hb dX12_factorial_5 rfl (lv_at hl 0 rfl) ?_
      refine va_get (D := D) (ci := 12) (v := .ref (ba 0)) (C := RX12) (T := TX12) (N := 35) hx hb hts kb_inX12 hown hK.1 hP 0 rfl rfl 3 (by decide) (hK.2.w ww_5_203 rfl _) (fun _ h9 => h9) rfl dX12_factorial_6 ?_
      refine va_getN (D := D) (ci := 11) (v := .int (bu_riders bu)) (C := RX11) (T := TX11) (N := 26) hx hb hts kb_inX11 hown hK.1 hP 1 rfl rfl 7 (by decide) (hK.2.nb ww_6_96 rfl rfl _) (fun _ h9 => h9) rfl dX12_factorial_9 ?_
      refine lv_icmp_gt (tgt := 25) hx hb dX12_factorial_12 (by decide) (fun c_1 => ?_) (fun c_1 => ?_)
      · rw [if_pos c_1] at hf
        refine lv_iload_n hx hb dX12_factorial_25 rfl (lv_at hl 1 rfl) ?_
        exact RET _ H _ ls 26 hf hP hD hS dX12_factorial_26
      · rw [if_neg c_1] at hf
        refine lv_iload_n hx hb dX12_factorial_15 rfl (lv_at hl 1 rfl) ?_
        refine lv_iload_n hx hb dX12_factorial_16 rfl (lv_at hl 2 rfl) ?_
        refine lv_imul hx hb dX12_factorial_17 ?_
        refine lv_istore_n (lv' := [(1, .int (v1 * v2)), (0, .ref (a 0)), (2, .int v2)]) hx hb dX12_factorial_18 rfl hl (by decide) rfl (fun ls hl => ?_)
        refine lv_iinc (v := (v2 + (1 : Int32))) (lv' := [(2, .int (v2 + (1 : Int32))), (1, .int (v1 * v2)), (0, .ref (a 0))]) hx hb dX12_factorial_19 hl (k := 2) rfl (by rfl) (by decide) rfl (fun ls hl => ?_)
        refine lv_goto (tgt := 4) hx hb dX12_factorial_22 (by decide) ?_
        exact ih _ _ _ _ _ hf hP hD hS (lv_sub hl [2, 1, 0] rfl)
  have E0 : ∀ (H : Heap) (locs : List Loc), va_P D vwCl (w_MO dA a (some (ba 0)) q1 g2 g3 g4 g5 g6 g7 g8 g9 g10 g11 g12 g13 g14 g15 g16 g17 g18 mo ++ (w_Bus dA ba bu)) H → va_D A (w_MO dA a (some (ba 0)) q1 g2 g3 g4 g5 g6 g7 g8 g9 g10 g11 g12 g13 g14 g15 g16 g17 g18 mo ++ (w_Bus dA ba bu)) → va_S A s.heap H locs → W p l e ({ frames := 0, cells := 0, slots := 0, locals := 0 } : Room) s m ([.ref (a 0)] : List Value).toArray below meth c H locs 0 0 Q (F0 m 0 ls []) := by
    intro H locs hP hD hS
    rw [f_X12_factorial] at hf
    refine lv_iconst (v := (1 : Int32)) hx hb dX12_factorial_0 (by decide) ?_
    refine lv_istore_n (lv' := [(1, .int (1 : Int32)), (0, .ref (a 0))]) hx hb dX12_factorial_1 rfl hl (by decide) rfl (fun ls hl => ?_)
    refine lv_iconst (v := (2 : Int32)) hx hb dX12_factorial_2 (by decide) ?_
    refine lv_istore_n (lv' := [(2, .int (2 : Int32)), (1, .int (1 : Int32)), (0, .ref (a 0))]) hx hb dX12_factorial_3 rfl hl (by decide) rfl (fun ls hl => ?_)
    exact B_4 4096 _ _ _ _ _ hf hP hD hS (lv_sub hl [2, 1, 0] rfl)
  exact E0 _ _ hP hD hS

noncomputable def f_X12_dealsAnew_b63 (mo : MOT) (bu : BusT) (k7 : Int32 → Int32 → Int32 → LooksT → Option (LooksT)) (k49 : Int32 → Int32 → Int32 → Int32 → Int32 → LooksT → Option (LooksT)) (v2 : Int32) (v3 : Int32) (v4 : Int32) (v5 : Int32) (v6 : Int32) (z1 : LooksT) : Option (LooksT) := (f_X12_has v3 v6).bind fun r6 => (if r6 = 0 then k49 v2 v3 v4 (v5 + (-1 : Int32)) (v6 + (1 : Int32)) z1 else k49 v2 v3 v4 v5 (v6 + (1 : Int32)) z1)
noncomputable def f_X12_dealsAnew_b105 (mo : MOT) (bu : BusT) (k7 : Int32 → Int32 → Int32 → LooksT → Option (LooksT)) (v2 : Int32) (v3 : Int32) (v4 : Int32) (z1 : LooksT) : Option (LooksT) := k7 v2 v3 (v4 + (1 : Int32)) z1
noncomputable def f_X12_dealsAnew_b49 (mo : MOT) (bu : BusT) (k7 : Int32 → Int32 → Int32 → LooksT → Option (LooksT)) : Nat → Int32 → Int32 → Int32 → Int32 → Int32 → LooksT → Option (LooksT)
  | 0, _, _, _, _, _, _ => none
  | n + 1, v2, v3, v4, v5, v6, z1 => (f_X12_has v3 v6).bind fun r4 => (if r4 = 0 then (if v5 ≤ 0 then if kb_in? v6 8 then if kb_in? v4 8 then f_X12_dealsAnew_b105 mo bu k7 v2 (v3 ||| ((1 : Int32) <<< (v6 &&& 31))) v4 (yLooks_set_r z1 (upd (yLooks_r z1) (v4).toNatClampNeg ((bu_looks bu) (v6).toNatClampNeg))) else none else none else f_X12_dealsAnew_b63 mo bu k7 (f_X12_dealsAnew_b49 mo bu k7 n) v2 v3 v4 v5 v6 z1) else f_X12_dealsAnew_b63 mo bu k7 (f_X12_dealsAnew_b49 mo bu k7 n) v2 v3 v4 v5 v6 z1)
noncomputable def f_X12_dealsAnew_b7 (mo : MOT) (bu : BusT) : Nat → Int32 → Int32 → Int32 → LooksT → Option (LooksT)
  | 0, _, _, _, _ => none
  | n + 1, v2, v3, v4, z1 => (if (bu_riders bu) ≤ v4 then some (z1) else if ¬ ((bu_riders bu) - v4) = 0 then if ¬ ((bu_riders bu) - v4) = 0 then f_X12_dealsAnew_b49 mo bu (f_X12_dealsAnew_b7 mo bu n) 4096 (v2 / ((bu_riders bu) - v4)) v3 v4 (v2 - v2 / ((bu_riders bu) - v4) * ((bu_riders bu) - v4)) (0 : Int32) z1 else none else none)
noncomputable def f_X12_dealsAnew (mo : MOT) (y_looks : LooksT) (bu : BusT) (x0 : Int32) : Option (LooksT) := f_X12_dealsAnew_b7 mo bu 4096 x0 (0 : Int32) (0 : Int32) y_looks
set_option maxHeartbeats 4000000 in
set_option maxRecDepth 100000 in
theorem c_X12_dealsAnew (l : Launch) (D : va_G) (dA : Nat → ClassId) (sz : Nat) (a : Nat → Nat) (la : Nat → Nat) (ba : Nat → Nat) (q1 : Option Nat) (g2 : Nat) (g3 : Nat) (g4 : Nat) (g5 : Nat) (g6 : Nat) (g8 : Nat) (g9 : Nat) (g10 : Nat) (g11 : Nat) (g12 : Nat) (g13 : Nat) (g14 : Nat) (g15 : Nat) (g16 : Nat) (g17 : Nat) (g18 : Nat) (mo : MOT) (y_looks : LooksT) (bu : BusT) (x0 : Int32) (u1 : LooksT) (hf : f_X12_dealsAnew mo y_looks bu x0 = some (u1)) : kb_Mv l yX12_dealsAnew cX12_dealsAnew 7 none ({ frames := 1, cells := 0, slots := 0, locals := 21 } : Room) D dA [.ref (a 0), .int x0] sz (w_MO dA a (some (ba 0)) q1 g2 g3 g4 g5 g6 (la 0) g8 g9 g10 g11 g12 g13 g14 g15 g16 g17 g18 mo ++ (w_Looks dA la y_looks ++ (w_Bus dA ba bu))) 0 0 (w_MO dA a (some (ba 0)) q1 g2 g3 g4 g5 g6 (la 0) g8 g9 g10 g11 g12 g13 g14 g15 g16 g17 g18 mo ++ (w_Looks dA la u1 ++ (w_Bus dA ba bu))) := by
  refine Met.ofW (cc := cX12_dealsAnew) (maxL := 7) (ret := none) (by decide) rfl ?_
  intro p e s m args below meth c s₁ B hml hv
  obtain ⟨rfl, hsz, hP, hK, hD0, hE⟩ := hv
  have hx := B.exec
  have hb := B.bytes
  have hr := B.returns
  have hown : s.vm.findClass RX12 = some m.cls := findClass_of_methodNamed B.named
  have hlocks := B.notSynchronized
  have hts : ∀ w ∈ kb_gw, w.before ([.ref (a 0), .int x0] : List Value).toArray s = true := fun w hw => hK.2.1 w hw _
  subst hsz
  have hD := hD0.self (sz := s.heap.size)
  generalize hAe : va_A (w_MO dA a (some (ba 0)) q1 g2 g3 g4 g5 g6 (la 0) g8 g9 g10 g11 g12 g13 g14 g15 g16 g17 g18 mo ++ (w_Looks dA la y_looks ++ (w_Bus dA ba bu))) s.heap.size = A at hD hE ⊢
  have hA : ∀ q : Nat, s.heap.size ≤ q → A q := fun q h => by rw [← hAe]; exact Or.inr h
  have hS : va_S A s.heap s.heap [] := va_S.rf
  have hl := lv_entry ([.ref (a 0), .int x0]) (n := 7) (Nat.le_of_ble_eq_true rfl)
  rw [lg_entry_eq]
  generalize (lg_sl ([.ref (a 0), .int x0]) ++ List.replicate (7 - (lg_sl ([.ref (a 0), .int x0])).length) Slot.unset).toArray = ls at hl ⊢
  have hl : lv_has ls 7 [(0, .ref (a 0)), (1, .int x0)] := hl
  generalize hQ : MQ below (va_Qv (fun (_ : Unit) => True) (kb_B D A (w_MO dA a (some (ba 0)) q1 g2 g3 g4 g5 g6 (la 0) g8 g9 g10 g11 g12 g13 g14 g15 g16 g17 g18 mo ++ (w_Looks dA la u1 ++ (w_Bus dA ba bu)))) A) ([.ref (a 0), .int x0] : List Value).toArray s 0 0 A = Q
  show W p l e ({ frames := 1, cells := 0, slots := 0, locals := 21 } : Room) s m ([.ref (a 0), .int x0] : List Value).toArray below meth c s.heap [] 0 0 Q (F0 m 0 ls [])
  have RET : ∀ (w1 : LooksT) (H : Heap) (locs : List Loc) (ls : Array Slot) (pc : Nat), some (w1) = some (u1) → va_P D vwCl (w_MO dA a (some (ba 0)) q1 g2 g3 g4 g5 g6 (la 0) g8 g9 g10 g11 g12 g13 g14 g15 g16 g17 g18 mo ++ (w_Looks dA la w1 ++ (w_Bus dA ba bu))) H → va_D A (w_MO dA a (some (ba 0)) q1 g2 g3 g4 g5 g6 (la 0) g8 g9 g10 g11 g12 g13 g14 g15 g16 g17 g18 mo ++ (w_Looks dA la w1 ++ (w_Bus dA ba bu))) → va_S A s.heap H locs → decode cX12_dealsAnew pc = .ok (.return_, 1) → W p l e ({ frames := 1, cells := 0, slots := 0, locals := 21 } : Room) s m ([.ref (a 0), .int x0] : List Value).toArray below meth c H locs 0 0 Q (F0 m pc ls []) := by
    intro w1 H locs ls pc hq hP hD hS hd
    cases hq
    rw [← hQ]
    exact W.vret hx hb hr (fun t ht hW => ⟨⟨(), rfl, trivial, by rw [ht]; exact hP, hD⟩, hS.F ht⟩) hS.2.2 hd
  have B_63 : ∀ (k7 : Int32 → Int32 → Int32 → LooksT → Option (LooksT)) (hk7 : ∀ (v2 : Int32) (v3 : Int32) (v4 : Int32) (z1 : LooksT) (H : Heap) (locs : List Loc) (ls : Array Slot), k7 v2 v3 v4 z1 = some (u1) → va_P D vwCl (w_MO dA a (some (ba 0)) q1 g2 g3 g4 g5 g6 (la 0) g8 g9 g10 g11 g12 g13 g14 g15 g16 g17 g18 mo ++ (w_Looks dA la z1 ++ (w_Bus dA ba bu))) H → va_D A (w_MO dA a (some (ba 0)) q1 g2 g3 g4 g5 g6 (la 0) g8 g9 g10 g11 g12 g13 g14 g15 g16 g17 g18 mo ++ (w_Looks dA la z1 ++ (w_Bus dA ba bu))) → va_S A s.heap H locs → lv_has ls 7 [(0, .ref (a 0)), (2, .int v2), (3, .int v3), (4, .int v4)] → W p l e ({ frames := 1, cells := 0, slots := 0, locals := 21 } : Room) s m ([.ref (a 0), .int x0] : List Value).toArray below meth c H locs 0 0 Q (F0 m 7 ls [])) (k49 : Int32 → Int32 → Int32 → Int32 → Int32 → LooksT → Option (LooksT)) (hk49 : ∀ (v2 : Int32) (v3 : Int32) (v4 : Int32) (v5 : Int32) (v6 : Int32) (z1 : LooksT) (H : Heap) (locs : List Loc) (ls : Array Slot), k49 v2 v3 v4 v5 v6 z1 = some (u1) → va_P D vwCl (w_MO dA a (some (ba 0)) q1 g2 g3 g4 g5 g6 (la 0) g8 g9 g10 g11 g12 g13 g14 g15 g16 g17 g18 mo ++ (w_Looks dA la z1 ++ (w_Bus dA ba bu))) H → va_D A (w_MO dA a (some (ba 0)) q1 g2 g3 g4 g5 g6 (la 0) g8 g9 g10 g11 g12 g13 g14 g15 g16 g17 g18 mo ++ (w_Looks dA la z1 ++ (w_Bus dA ba bu))) → va_S A s.heap H locs → lv_has ls 7 [(0, .ref (a 0)), (2, .int v2), (3, .int v3), (4, .int v4), (5, .int v5), (6, .int v6)] → W p l e ({ frames := 1, cells := 0, slots := 0, locals := 21 } : Room) s m ([.ref (a 0), .int x0] : List Value).toArray below meth c H locs 0 0 Q (F0 m 49 ls [])) (v2 : Int32) (v3 : Int32) (v4 : Int32) (v5 : Int32) (v6 : Int32) (z1 : LooksT) (H : Heap) (locs : List Loc) (ls : Array Slot), f_X12_dealsAnew_b63 mo bu k7 k49 v2 v3 v4 v5 v6 z1 = some (u1) → va_P D vwCl (w_MO dA a (some (ba 0)) q1 g2 g3 g4 g5 g6 (la 0) g8 g9 g10 g11 g12 g13 g14 g15 g16 g17 g18 mo ++ (w_Looks dA la z1 ++ (w_Bus dA ba bu))) H → va_D A (w_MO dA a (some (ba 0)) q1 g2 g3 g4 g5 g6 (la 0) g8 g9 g10 g11 g12 g13 g14 g15 g16 g17 g18 mo ++ (w_Looks dA la z1 ++ (w_Bus dA ba bu))) → va_S A s.heap H locs → lv_has ls 7 [(0, .ref (a 0)), (2, .int v2), (3, .int v3), (4, .int v4), (5, .int v5), (6, .int v6)] → W p l e ({ frames := 1, cells := 0, slots := 0, locals := 21 } : Room) s m ([.ref (a 0), .int x0] : List Value).toArray below meth c H locs 0 0 Q (F0 m 63 ls []) := by
    intro k7 hk7 k49 hk49 v2 v3 v4 v5 v6 z1 H locs ls hf hP hD hS hl
    rw [f_X12_dealsAnew_b63] at hf
    refine lv_iload_n hx hb dX12_dealsAnew_63 rfl (lv_at hl 2 rfl) ?_
    refine lv_iload hx hb dX12_dealsAnew_64 (lv_at hl 5 rfl) ?_
    obtain ⟨r6, hc6, hf⟩ := kb_bind hf
    refine kb_ci (ws2 := (w_MO dA a (some (ba 0)) q1 g2 g3 g4 g5 g6 (la 0) g8 g9 g10 g11 g12 g13 g14 g15 g16 g17 g18 mo ++ (w_Looks dA la z1 ++ (w_Bus dA ba bu)))) (kb_rS (n := 2) (As := [.int v3, .int v6]) (rest := []) hx hb hml hown hK (c_X12_has l D dA H.size v3 v6 r6 hc6) ⟨ww_7_182, ww_7_180, ww_7_181, ww_1_12, by decide, by decide⟩ rfl rfl (by decide +kernel) ⟨Nat.le_of_ble_eq_true rfl, Nat.le_of_ble_eq_true rfl⟩ hP hD hS hA hE [] rfl (by decide) rfl hl.1 rfl (Nat.le_of_ble_eq_true rfl) dX12_dealsAnew_66 ⟨Nat.le_of_ble_eq_true rfl, Nat.le_of_ble_eq_true rfl⟩) hP hD hS hA [] [0, 1, 2, 3, 4, 5, 6, 7, 8, 9, 10, 11, 12, 13, 14, 15, 16, 17] [0, 1, 2, 3, 4, 5, 6, 7, 8, 9, 10, 11, 12, 13, 14, 15, 16, 17] rfl rfl (by decide) (by decide) rfl (by decide) (fun H locs hP hD hS => ?_)
    refine lv_if_ne (tgt := 75) hx hb dX12_dealsAnew_69 (by decide) (fun c_7 => ?_) (fun c_7 => ?_)
    · rw [if_neg c_7] at hf
      refine lv_iinc (v := (v6 + (1 : Int32))) (lv' := [(6, .int (v6 + (1 : Int32))), (0, .ref (a 0)), (2, .int v2), (3, .int v3), (4, .int v4), (5, .int v5)]) hx hb dX12_dealsAnew_75 hl (k := 5) rfl (by rfl) (by decide) rfl (fun ls hl => ?_)
      refine lv_goto (tgt := 49) hx hb dX12_dealsAnew_78 (by decide) ?_
      exact hk49 _ _ _ _ _ _ _ _ _ hf hP hD hS (lv_sub hl [1, 2, 3, 4, 5, 0] rfl)
    · rw [if_pos c_7] at hf
      refine lv_iinc (v := (v5 + (-1 : Int32))) (lv' := [(5, .int (v5 + (-1 : Int32))), (0, .ref (a 0)), (2, .int v2), (3, .int v3), (4, .int v4), (6, .int v6)]) hx hb dX12_dealsAnew_72 hl (k := 4) rfl (by rfl) (by decide) rfl (fun ls hl => ?_)
      refine lv_iinc (v := (v6 + (1 : Int32))) (lv' := [(6, .int (v6 + (1 : Int32))), (5, .int (v5 + (-1 : Int32))), (0, .ref (a 0)), (2, .int v2), (3, .int v3), (4, .int v4)]) hx hb dX12_dealsAnew_75 hl (k := 5) rfl (by rfl) (by decide) rfl (fun ls hl => ?_)
      refine lv_goto (tgt := 49) hx hb dX12_dealsAnew_78 (by decide) ?_
      exact hk49 _ _ _ _ _ _ _ _ _ hf hP hD hS (lv_sub hl [2, 3, 4, 5, 1, 0] rfl)
  have B_105 : ∀ (k7 : Int32 → Int32 → Int32 → LooksT → Option (LooksT)) (hk7 : ∀ (v2 : Int32) (v3 : Int32) (v4 : Int32) (z1 : LooksT) (H : Heap) (locs : List Loc) (ls : Array Slot), k7 v2 v3 v4 z1 = some (u1) → va_P D vwCl (w_MO dA a (some (ba 0)) q1 g2 g3 g4 g5 g6 (la 0) g8 g9 g10 g11 g12 g13 g14 g15 g16 g17 g18 mo ++ (w_Looks dA la z1 ++ (w_Bus dA ba bu))) H → va_D A (w_MO dA a (some (ba 0)) q1 g2 g3 g4 g5 g6 (la 0) g8 g9 g10 g11 g12 g13 g14 g15 g16 g17 g18 mo ++ (w_Looks dA la z1 ++ (w_Bus dA ba bu))) → va_S A s.heap H locs → lv_has ls 7 [(0, .ref (a 0)), (2, .int v2), (3, .int v3), (4, .int v4)] → W p l e ({ frames := 1, cells := 0, slots := 0, locals := 21 } : Room) s m ([.ref (a 0), .int x0] : List Value).toArray below meth c H locs 0 0 Q (F0 m 7 ls [])) (v2 : Int32) (v3 : Int32) (v4 : Int32) (z1 : LooksT) (H : Heap) (locs : List Loc) (ls : Array Slot), f_X12_dealsAnew_b105 mo bu k7 v2 v3 v4 z1 = some (u1) → va_P D vwCl (w_MO dA a (some (ba 0)) q1 g2 g3 g4 g5 g6 (la 0) g8 g9 g10 g11 g12 g13 g14 g15 g16 g17 g18 mo ++ (w_Looks dA la z1 ++ (w_Bus dA ba bu))) H → va_D A (w_MO dA a (some (ba 0)) q1 g2 g3 g4 g5 g6 (la 0) g8 g9 g10 g11 g12 g13 g14 g15 g16 g17 g18 mo ++ (w_Looks dA la z1 ++ (w_Bus dA ba bu))) → va_S A s.heap H locs → lv_has ls 7 [(0, .ref (a 0)), (2, .int v2), (3, .int v3), (4, .int v4)] → W p l e ({ frames := 1, cells := 0, slots := 0, locals := 21 } : Room) s m ([.ref (a 0), .int x0] : List Value).toArray below meth c H locs 0 0 Q (F0 m 105 ls []) := by
    intro k7 hk7 v2 v3 v4 z1 H locs ls hf hP hD hS hl
    rw [f_X12_dealsAnew_b105] at hf
    refine lv_iinc (v := (v4 + (1 : Int32))) (lv' := [(4, .int (v4 + (1 : Int32))), (0, .ref (a 0)), (2, .int v2), (3, .int v3)]) hx hb dX12_dealsAnew_105 hl (k := 3) rfl (by rfl) (by decide) rfl (fun ls hl => ?_)
    refine lv_goto (tgt := 7) hx hb dX12_dealsAnew_108 (by decide) ?_
    exact hk7 _ _ _ _ _ _ _ hf hP hD hS (lv_sub hl [1, 2, 3, 0] rfl)
  have B_49 : ∀ (k7 : Int32 → Int32 → Int32 → LooksT → Option (LooksT)) (hk7 : ∀ (v2 : Int32) (v3 : Int32) (v4 : Int32) (z1 : LooksT) (H : Heap) (locs : List Loc) (ls : Array Slot), k7 v2 v3 v4 z1 = some (u1) → va_P D vwCl (w_MO dA a (some (ba 0)) q1 g2 g3 g4 g5 g6 (la 0) g8 g9 g10 g11 g12 g13 g14 g15 g16 g17 g18 mo ++ (w_Looks dA la z1 ++ (w_Bus dA ba bu))) H → va_D A (w_MO dA a (some (ba 0)) q1 g2 g3 g4 g5 g6 (la 0) g8 g9 g10 g11 g12 g13 g14 g15 g16 g17 g18 mo ++ (w_Looks dA la z1 ++ (w_Bus dA ba bu))) → va_S A s.heap H locs → lv_has ls 7 [(0, .ref (a 0)), (2, .int v2), (3, .int v3), (4, .int v4)] → W p l e ({ frames := 1, cells := 0, slots := 0, locals := 21 } : Room) s m ([.ref (a 0), .int x0] : List Value).toArray below meth c H locs 0 0 Q (F0 m 7 ls [])) (n : Nat) (v2 : Int32) (v3 : Int32) (v4 : Int32) (v5 : Int32) (v6 : Int32) (z1 : LooksT) (H : Heap) (locs : List Loc) (ls : Array Slot), f_X12_dealsAnew_b49 mo bu k7 n v2 v3 v4 v5 v6 z1 = some (u1) → va_P D vwCl (w_MO dA a (some (ba 0)) q1 g2 g3 g4 g5 g6 (la 0) g8 g9 g10 g11 g12 g13 g14 g15 g16 g17 g18 mo ++ (w_Looks dA la z1 ++ (w_Bus dA ba bu))) H → va_D A (w_MO dA a (some (ba 0)) q1 g2 g3 g4 g5 g6 (la 0) g8 g9 g10 g11 g12 g13 g14 g15 g16 g17 g18 mo ++ (w_Looks dA la z1 ++ (w_Bus dA ba bu))) → va_S A s.heap H locs → lv_has ls 7 [(0, .ref (a 0)), (2, .int v2), (3, .int v3), (4, .int v4), (5, .int v5), (6, .int v6)] → W p l e ({ frames := 1, cells := 0, slots := 0, locals := 21 } : Room) s m ([.ref (a 0), .int x0] : List Value).toArray below meth c H locs 0 0 Q (F0 m 49 ls []) := by
    intro k7 hk7 n
    induction n with
    | zero =>
      intro v2 v3 v4 v5 v6 z1 H locs ls hf
      exact absurd hf (by simp [f_X12_dealsAnew_b49])
    | succ n ih =>
      intro v2 v3 v4 v5 v6 z1 H locs ls hf hP hD hS hl
      rw [f_X12_dealsAnew_b49] at hf
      refine lv_iload_n hx hb dX12_dealsAnew_49 rfl (lv_at hl 2 rfl) ?_
      refine lv_iload hx hb dX12_dealsAnew_50 (lv_at hl 5 rfl) ?_
      obtain ⟨r4, hc4, hf⟩ := kb_bind hf
      refine kb_ci (ws2 := (w_MO dA a (some (ba 0)) q1 g2 g3 g4 g5 g6 (la 0) g8 g9 g10 g11 g12 g13 g14 g15 g16 g17 g18 mo ++ (w_Looks dA la z1 ++ (w_Bus dA ba bu)))) (kb_rS (n := 2) (As := [.int v3, .int v6]) (rest := []) hx hb hml hown hK (c_X12_has l D dA H.size v3 v6 r4 hc4) ⟨ww_7_182, ww_7_180, ww_7_181, ww_1_12, by decide, by decide⟩ rfl rfl (by decide +kernel) ⟨Nat.le_of_ble_eq_true rfl, Nat.le_of_ble_eq_true rfl⟩ hP hD hS hA hE [] rfl (by decide) rfl hl.1 rfl (Nat.le_of_ble_eq_true rfl) dX12_dealsAnew_52 ⟨Nat.le_of_ble_eq_true rfl, Nat.le_of_ble_eq_true rfl⟩) hP hD hS hA [] [0, 1, 2, 3, 4, 5, 6, 7, 8, 9, 10, 11, 12, 13, 14, 15, 16, 17] [0, 1, 2, 3, 4, 5, 6, 7, 8, 9, 10, 11, 12, 13, 14, 15, 16, 17] rfl rfl (by decide) (by decide) rfl (by decide) (fun H locs hP hD hS => ?_)
      refine lv_if_ne (tgt := 63) hx hb dX12_dealsAnew_55 (by decide) (fun c_5 => ?_) (fun c_5 => ?_)
      · rw [if_neg c_5] at hf
        exact B_63 k7 hk7 (f_X12_dealsAnew_b49 mo bu k7 n) ih _ _ _ _ _ _ _ _ _ hf hP hD hS (lv_sub hl [0, 1, 2, 3, 4, 5] rfl)
      · rw [if_pos c_5] at hf
        refine lv_iload hx hb dX12_dealsAnew_58 (lv_at hl 4 rfl) ?_
        refine lv_if_le (tgt := 81) hx hb dX12_dealsAnew_60 (by decide) (fun c_8 => ?_) (fun c_8 => ?_)
        · rw [if_pos c_8] at hf
          refine lv_iload_n hx hb dX12_dealsAnew_81 rfl (lv_at hl 2 rfl) ?_
          refine lv_iconst (v := (1 : Int32)) hx hb dX12_dealsAnew_82 (by decide) ?_
          refine lv_iload hx hb dX12_dealsAnew_83 (lv_at hl 5 rfl) ?_
          refine lv_ishl hx hb dX12_dealsAnew_85 ?_
          refine lv_ior hx hb dX12_dealsAnew_86 ?_
          refine lv_istore_n (lv' := [(3, .int (v3 ||| ((1 : Int32) <<< (v6 &&& 31)))), (0, .ref (a 0)), (2, .int v2), (4, .int v4), (5, .int v5), (6, .int v6)]) hx hb dX12_dealsAnew_87 rfl hl (by decide) rfl (fun ls hl => ?_)
          refine lv_aload_n hx hb dX12_dealsAnew_88 rfl (lv_at hl 1 rfl) ?_
          refine va_get (D := D) (ci := 12) (v := .ref (la 0)) (C := RX12) (T := TX12) (N := 35) hx hb hts kb_inX12 hown hK.1 hP 0 rfl rfl 20 (by decide) (hK.2.w ww_5_220 rfl _) (fun _ h9 => h9) rfl dX12_dealsAnew_89 ?_
          refine lv_iload hx hb dX12_dealsAnew_92 (lv_at hl 3 rfl) ?_
          refine lv_aload_n hx hb dX12_dealsAnew_94 rfl (lv_at hl 1 rfl) ?_
          refine va_get (D := D) (ci := 12) (v := .ref (ba 0)) (C := RX12) (T := TX12) (N := 35) hx hb hts kb_inX12 hown hK.1 hP 0 rfl rfl 3 (by decide) (hK.2.w ww_5_203 rfl _) (fun _ h9 => h9) rfl dX12_dealsAnew_95 ?_
          refine va_getN (D := D) (ci := 11) (v := .ref (ba 6)) (C := RX11) (T := TX11) (N := 26) hx hb hts kb_inX11 hown hK.1 hP 2 rfl rfl 16 (by decide) (hK.2.nb ww_6_113 rfl rfl _) (fun _ h9 => h9) rfl dX12_dealsAnew_98 ?_
          refine lv_iload hx hb dX12_dealsAnew_101 (lv_at hl 5 rfl) ?_
          obtain ⟨h_9, hf⟩ := kb_if hf
          refine va_iald (D := D) hx hb hK.1 hP 8 0 rfl rfl h_9 dX12_dealsAnew_103 ?_
          obtain ⟨h_10, hf⟩ := kb_if hf
          refine va_iast (D := D) hx hb hK.1 hP hD hS 1 0 rfl rfl h_10 dX12_dealsAnew_104 (fun H locs hP hD hS => ?_)
          have hP : va_P D vwCl (w_MO dA a (some (ba 0)) q1 g2 g3 g4 g5 g6 (la 0) g8 g9 g10 g11 g12 g13 g14 g15 g16 g17 g18 mo ++ (w_Looks dA la (yLooks_set_r z1 (upd (yLooks_r z1) (v4).toNatClampNeg ((bu_looks bu) (v6).toNatClampNeg))) ++ (w_Bus dA ba bu))) H := hP
          have hD : va_D A (w_MO dA a (some (ba 0)) q1 g2 g3 g4 g5 g6 (la 0) g8 g9 g10 g11 g12 g13 g14 g15 g16 g17 g18 mo ++ (w_Looks dA la (yLooks_set_r z1 (upd (yLooks_r z1) (v4).toNatClampNeg ((bu_looks bu) (v6).toNatClampNeg))) ++ (w_Bus dA ba bu))) := hD
          exact B_105 k7 hk7 _ _ _ _ _ _ _ hf hP hD hS (lv_sub hl [1, 2, 0, 3] rfl)
        · rw [if_neg c_8] at hf
          exact B_63 k7 hk7 (f_X12_dealsAnew_b49 mo bu k7 n) ih _ _ _ _ _ _ _ _ _ hf hP hD hS (lv_sub hl [0, 1, 2, 3, 4, 5] rfl)
  have B_7 : ∀ (n : Nat) (v2 : Int32) (v3 : Int32) (v4 : Int32) (z1 : LooksT) (H : Heap) (locs : List Loc) (ls : Array Slot), f_X12_dealsAnew_b7 mo bu n v2 v3 v4 z1 = some (u1) → va_P D vwCl (w_MO dA a (some (ba 0)) q1 g2 g3 g4 g5 g6 (la 0) g8 g9 g10 g11 g12 g13 g14 g15 g16 g17 g18 mo ++ (w_Looks dA la z1 ++ (w_Bus dA ba bu))) H → va_D A (w_MO dA a (some (ba 0)) q1 g2 g3 g4 g5 g6 (la 0) g8 g9 g10 g11 g12 g13 g14 g15 g16 g17 g18 mo ++ (w_Looks dA la z1 ++ (w_Bus dA ba bu))) → va_S A s.heap H locs → lv_has ls 7 [(0, .ref (a 0)), (2, .int v2), (3, .int v3), (4, .int v4)] → W p l e ({ frames := 1, cells := 0, slots := 0, locals := 21 } : Room) s m ([.ref (a 0), .int x0] : List Value).toArray below meth c H locs 0 0 Q (F0 m 7 ls []) := by
    intro n
    induction n with
    | zero =>
      intro v2 v3 v4 z1 H locs ls hf
      exact absurd hf (by simp [f_X12_dealsAnew_b7])
    | succ n ih =>
      intro v2 v3 v4 z1 H locs ls hf hP hD hS hl
      rw [f_X12_dealsAnew_b7] at hf
      refine lv_iload hx hb dX12_dealsAnew_7 (lv_at hl 3 rfl) ?_
      refine lv_aload_n hx hb dX12_dealsAnew_9 rfl (lv_at hl 0 rfl) ?_
      refine va_get (D := D) (ci := 12) (v := .ref (ba 0)) (C := RX12) (T := TX12) (N := 35) hx hb hts kb_inX12 hown hK.1 hP 0 rfl rfl 3 (by decide) (hK.2.w ww_5_203 rfl _) (fun _ h9 => h9) rfl dX12_dealsAnew_10 ?_
      refine va_getN (D := D) (ci := 11) (v := .int (bu_riders bu)) (C := RX11) (T := TX11) (N := 26) hx hb hts kb_inX11 hown hK.1 hP 2 rfl rfl 7 (by decide) (hK.2.nb ww_6_96 rfl rfl _) (fun _ h9 => h9) rfl dX12_dealsAnew_13 ?_
      refine lv_icmp_ge (tgt := 111) hx hb dX12_dealsAnew_16 (by decide) (fun c_1 => ?_) (fun c_1 => ?_)
      · rw [if_pos c_1] at hf
        exact RET _ H _ ls 111 hf hP hD hS dX12_dealsAnew_111
      · rw [if_neg c_1] at hf
        refine lv_iload_n hx hb dX12_dealsAnew_19 rfl (lv_at hl 1 rfl) ?_
        refine lv_aload_n hx hb dX12_dealsAnew_20 rfl (lv_at hl 0 rfl) ?_
        refine va_get (D := D) (ci := 12) (v := .ref (ba 0)) (C := RX12) (T := TX12) (N := 35) hx hb hts kb_inX12 hown hK.1 hP 0 rfl rfl 3 (by decide) (hK.2.w ww_5_203 rfl _) (fun _ h9 => h9) rfl dX12_dealsAnew_21 ?_
        refine va_getN (D := D) (ci := 11) (v := .int (bu_riders bu)) (C := RX11) (T := TX11) (N := 26) hx hb hts kb_inX11 hown hK.1 hP 2 rfl rfl 7 (by decide) (hK.2.nb ww_6_96 rfl rfl _) (fun _ h9 => h9) rfl dX12_dealsAnew_24 ?_
        refine lv_iload hx hb dX12_dealsAnew_27 (lv_at hl 3 rfl) ?_
        refine lv_isub hx hb dX12_dealsAnew_29 ?_
        obtain ⟨h_2, hf⟩ := kb_if hf
        refine lv_irem hx hb dX12_dealsAnew_30 h_2 ?_
        refine lv_istore (lv' := [(5, .int (v2 - v2 / ((bu_riders bu) - v4) * ((bu_riders bu) - v4))), (0, .ref (a 0)), (2, .int v2), (3, .int v3), (4, .int v4)]) hx hb dX12_dealsAnew_31 hl (by decide) rfl (fun ls hl => ?_)
        refine lv_iload_n hx hb dX12_dealsAnew_33 rfl (lv_at hl 2 rfl) ?_
        refine lv_aload_n hx hb dX12_dealsAnew_34 rfl (lv_at hl 1 rfl) ?_
        refine va_get (D := D) (ci := 12) (v := .ref (ba 0)) (C := RX12) (T := TX12) (N := 35) hx hb hts kb_inX12 hown hK.1 hP 0 rfl rfl 3 (by decide) (hK.2.w ww_5_203 rfl _) (fun _ h9 => h9) rfl dX12_dealsAnew_35 ?_
        refine va_getN (D := D) (ci := 11) (v := .int (bu_riders bu)) (C := RX11) (T := TX11) (N := 26) hx hb hts kb_inX11 hown hK.1 hP 2 rfl rfl 7 (by decide) (hK.2.nb ww_6_96 rfl rfl _) (fun _ h9 => h9) rfl dX12_dealsAnew_38 ?_
        refine lv_iload hx hb dX12_dealsAnew_41 (lv_at hl 4 rfl) ?_
        refine lv_isub hx hb dX12_dealsAnew_43 ?_
        obtain ⟨h_3, hf⟩ := kb_if hf
        refine lv_idiv hx hb dX12_dealsAnew_44 h_3 ?_
        refine lv_istore_n (lv' := [(2, .int (v2 / ((bu_riders bu) - v4))), (5, .int (v2 - v2 / ((bu_riders bu) - v4) * ((bu_riders bu) - v4))), (0, .ref (a 0)), (3, .int v3), (4, .int v4)]) hx hb dX12_dealsAnew_45 rfl hl (by decide) rfl (fun ls hl => ?_)
        refine lv_iconst (v := (0 : Int32)) hx hb dX12_dealsAnew_46 (by decide) ?_
        refine lv_istore (lv' := [(6, .int (0 : Int32)), (2, .int (v2 / ((bu_riders bu) - v4))), (5, .int (v2 - v2 / ((bu_riders bu) - v4) * ((bu_riders bu) - v4))), (0, .ref (a 0)), (3, .int v3), (4, .int v4)]) hx hb dX12_dealsAnew_47 hl (by decide) rfl (fun ls hl => ?_)
        exact B_49 (f_X12_dealsAnew_b7 mo bu n) ih 4096 _ _ _ _ _ _ _ _ _ hf hP hD hS (lv_sub hl [3, 1, 4, 5, 2, 0] rfl)
  have E0 : ∀ (H : Heap) (locs : List Loc), va_P D vwCl (w_MO dA a (some (ba 0)) q1 g2 g3 g4 g5 g6 (la 0) g8 g9 g10 g11 g12 g13 g14 g15 g16 g17 g18 mo ++ (w_Looks dA la y_looks ++ (w_Bus dA ba bu))) H → va_D A (w_MO dA a (some (ba 0)) q1 g2 g3 g4 g5 g6 (la 0) g8 g9 g10 g11 g12 g13 g14 g15 g16 g17 g18 mo ++ (w_Looks dA la y_looks ++ (w_Bus dA ba bu))) → va_S A s.heap H locs → W p l e ({ frames := 1, cells := 0, slots := 0, locals := 21 } : Room) s m ([.ref (a 0), .int x0] : List Value).toArray below meth c H locs 0 0 Q (F0 m 0 ls []) := by
    intro H locs hP hD hS
    rw [f_X12_dealsAnew] at hf
    refine lv_iload_n hx hb dX12_dealsAnew_0 rfl (lv_at hl 1 rfl) ?_
    refine lv_istore_n (lv' := [(2, .int x0), (0, .ref (a 0)), (1, .int x0)]) hx hb dX12_dealsAnew_1 rfl hl (by decide) rfl (fun ls hl => ?_)
    refine lv_iconst (v := (0 : Int32)) hx hb dX12_dealsAnew_2 (by decide) ?_
    refine lv_istore_n (lv' := [(3, .int (0 : Int32)), (2, .int x0), (0, .ref (a 0)), (1, .int x0)]) hx hb dX12_dealsAnew_3 rfl hl (by decide) rfl (fun ls hl => ?_)
    refine lv_iconst (v := (0 : Int32)) hx hb dX12_dealsAnew_4 (by decide) ?_
    refine lv_istore (lv' := [(4, .int (0 : Int32)), (3, .int (0 : Int32)), (2, .int x0), (0, .ref (a 0)), (1, .int x0)]) hx hb dX12_dealsAnew_5 hl (by decide) rfl (fun ls hl => ?_)
    exact B_7 4096 _ _ _ _ _ _ _ hf hP hD hS (lv_sub hl [3, 2, 1, 0] rfl)
  exact E0 _ _ hP hD hS

noncomputable def f_X12_shunnedInRun_b9 (mo : MOT) (y_looks : LooksT) (bu : BusT) (v1 : Int32) (z1 : WT) (z3 : WhoT) (z4 : LookT) : Option (Int32 × WT × WhoT × LookT) := if kb_in? ((16 : Int32) + v1) 56 then (if ((yW_r z1) (((16 : Int32) + v1)).toNatClampNeg) = 0 then some ((-1 : Int32), z1, z3, z4) else (f_X12_shunnedNow mo z1 v1).bind fun r5 => some (r5, z1, z3, z4)) else none
noncomputable def f_X12_shunnedInRun_b4 (mo : MOT) (y_looks : LooksT) (bu : BusT) (v1 : Int32) (z1 : WT) (z3 : WhoT) (z4 : LookT) : Option (Int32 × WT × WhoT × LookT) := (f_X12_runs mo z1 y_looks z3 z4 bu).bind fun r2 => f_X12_shunnedInRun_b9 mo y_looks bu v1 r2.2.1 r2.2.2.1 r2.2.2.2
noncomputable def f_X12_shunnedInRun (mo : MOT) (y_w : WT) (y_looks : LooksT) (y_who : WhoT) (y_look : LookT) (bu : BusT) (x0 : Int32) : Option (Int32 × WT × WhoT × LookT) := (f_X12_beginsAnew mo y_w bu).bind fun r1 => f_X12_shunnedInRun_b4 mo y_looks bu x0 r1 y_who y_look
set_option maxHeartbeats 4000000 in
set_option maxRecDepth 100000 in
theorem c_X12_shunnedInRun (l : Launch) (D : va_G) (dA : Nat → ClassId) (sz : Nat) (a : Nat → Nat) (wa : Nat → Nat) (la : Nat → Nat) (ha : Nat → Nat) (ca : Nat → Nat) (ba : Nat → Nat) (q1 : Option Nat) (g2 : Nat) (g3 : Nat) (g4 : Nat) (g5 : Nat) (g10 : Nat) (g11 : Nat) (g12 : Nat) (g13 : Nat) (g14 : Nat) (g15 : Nat) (g16 : Nat) (g17 : Nat) (g18 : Nat) (mo : MOT) (y_w : WT) (y_looks : LooksT) (y_who : WhoT) (y_look : LookT) (bu : BusT) (x0 : Int32) (rv : Int32) (u1 : WT) (u3 : WhoT) (u4 : LookT) (hf : f_X12_shunnedInRun mo y_w y_looks y_who y_look bu x0 = some (rv, u1, u3, u4)) : kb_Mi l yX12_shunnedInRun cX12_shunnedInRun 2 (some .int) ({ frames := 12, cells := 0, slots := 0, locals := 274 } : Room) D dA [.ref (a 0), .int x0] sz (w_MO dA a (some (ba 0)) q1 g2 g3 g4 g5 (wa 0) (la 0) (ha 0) (ca 0) g10 g11 g12 g13 g14 g15 g16 g17 g18 mo ++ (w_W dA wa y_w ++ (w_Looks dA la y_looks ++ (w_Who dA ha y_who ++ (w_Look dA ca y_look ++ (w_Bus dA ba bu)))))) 0 0 rv (w_MO dA a (some (ba 0)) q1 g2 g3 g4 g5 (wa 0) (la 0) (ha 0) (ca 0) g10 g11 g12 g13 g14 g15 g16 g17 g18 mo ++ (w_W dA wa u1 ++ (w_Looks dA la y_looks ++ (w_Who dA ha u3 ++ (w_Look dA ca u4 ++ (w_Bus dA ba bu)))))) := by
  refine Met.ofW (cc := cX12_shunnedInRun) (maxL := 2) (ret := (some .int)) (by decide) rfl ?_
  intro p e s m args below meth c s₁ B hml hv
  obtain ⟨rfl, hsz, hP, hK, hD0, hE⟩ := hv
  have hx := B.exec
  have hb := B.bytes
  have hr := B.returns
  have hown : s.vm.findClass RX12 = some m.cls := findClass_of_methodNamed B.named
  have hlocks := B.notSynchronized
  have hts : ∀ w ∈ kb_gw, w.before ([.ref (a 0), .int x0] : List Value).toArray s = true := fun w hw => hK.2.1 w hw _
  subst hsz
  have hD := hD0.self (sz := s.heap.size)
  generalize hAe : va_A (w_MO dA a (some (ba 0)) q1 g2 g3 g4 g5 (wa 0) (la 0) (ha 0) (ca 0) g10 g11 g12 g13 g14 g15 g16 g17 g18 mo ++ (w_W dA wa y_w ++ (w_Looks dA la y_looks ++ (w_Who dA ha y_who ++ (w_Look dA ca y_look ++ (w_Bus dA ba bu)))))) s.heap.size = A at hD hE ⊢
  have hA : ∀ q : Nat, s.heap.size ≤ q → A q := fun q h => by rw [← hAe]; exact Or.inr h
  have hS : va_S A s.heap s.heap [] := va_S.rf
  have hl := lv_entry ([.ref (a 0), .int x0]) (n := 2) (Nat.le_of_ble_eq_true rfl)
  rw [lg_entry_eq]
  generalize (lg_sl ([.ref (a 0), .int x0]) ++ List.replicate (2 - (lg_sl ([.ref (a 0), .int x0])).length) Slot.unset).toArray = ls at hl ⊢
  have hl : lv_has ls 2 [(0, .ref (a 0)), (1, .int x0)] := hl
  generalize hQ : MQ below (va_Qi (fun r (_ : Unit) => r = rv) (kb_B D A (w_MO dA a (some (ba 0)) q1 g2 g3 g4 g5 (wa 0) (la 0) (ha 0) (ca 0) g10 g11 g12 g13 g14 g15 g16 g17 g18 mo ++ (w_W dA wa u1 ++ (w_Looks dA la y_looks ++ (w_Who dA ha u3 ++ (w_Look dA ca u4 ++ (w_Bus dA ba bu))))))) A) ([.ref (a 0), .int x0] : List Value).toArray s 0 0 A = Q
  show W p l e ({ frames := 12, cells := 0, slots := 0, locals := 274 } : Room) s m ([.ref (a 0), .int x0] : List Value).toArray below meth c s.heap [] 0 0 Q (F0 m 0 ls [])
  have RET : ∀ (r2 : Int32) (w1 : WT) (w3 : WhoT) (w4 : LookT) (H : Heap) (locs : List Loc) (ls : Array Slot) (pc : Nat), some (r2, w1, w3, w4) = some (rv, u1, u3, u4) → va_P D vwCl (w_MO dA a (some (ba 0)) q1 g2 g3 g4 g5 (wa 0) (la 0) (ha 0) (ca 0) g10 g11 g12 g13 g14 g15 g16 g17 g18 mo ++ (w_W dA wa w1 ++ (w_Looks dA la y_looks ++ (w_Who dA ha w3 ++ (w_Look dA ca w4 ++ (w_Bus dA ba bu)))))) H → va_D A (w_MO dA a (some (ba 0)) q1 g2 g3 g4 g5 (wa 0) (la 0) (ha 0) (ca 0) g10 g11 g12 g13 g14 g15 g16 g17 g18 mo ++ (w_W dA wa w1 ++ (w_Looks dA la y_looks ++ (w_Who dA ha w3 ++ (w_Look dA ca w4 ++ (w_Bus dA ba bu)))))) → va_S A s.heap H locs → decode cX12_shunnedInRun pc = .ok (.ireturn, 1) → W p l e ({ frames := 12, cells := 0, slots := 0, locals := 274 } : Room) s m ([.ref (a 0), .int x0] : List Value).toArray below meth c H locs 0 0 Q (F0 m pc ls [.int r2]) := by
    intro r2 w1 w3 w4 H locs ls pc hq hP hD hS hd
    cases hq
    rw [← hQ]
    exact W.iret hx hb hr (fun t ht hW => ⟨⟨_, (), rfl, rfl, by rw [ht]; exact hP, hD⟩, hS.F ht⟩) hS.2.2 hd
  have B_9 : ∀ (v1 : Int32) (z1 : WT) (z3 : WhoT) (z4 : LookT) (H : Heap) (locs : List Loc) (ls : Array Slot), f_X12_shunnedInRun_b9 mo y_looks bu v1 z1 z3 z4 = some (rv, u1, u3, u4) → va_P D vwCl (w_MO dA a (some (ba 0)) q1 g2 g3 g4 g5 (wa 0) (la 0) (ha 0) (ca 0) g10 g11 g12 g13 g14 g15 g16 g17 g18 mo ++ (w_W dA wa z1 ++ (w_Looks dA la y_looks ++ (w_Who dA ha z3 ++ (w_Look dA ca z4 ++ (w_Bus dA ba bu)))))) H → va_D A (w_MO dA a (some (ba 0)) q1 g2 g3 g4 g5 (wa 0) (la 0) (ha 0) (ca 0) g10 g11 g12 g13 g14 g15 g16 g17 g18 mo ++ (w_W dA wa z1 ++ (w_Looks dA la y_looks ++ (w_Who dA ha z3 ++ (w_Look dA ca z4 ++ (w_Bus dA ba bu)))))) → va_S A s.heap H locs → lv_has ls 2 [(0, .ref (a 0)), (1, .int v1)] → W p l e ({ frames := 12, cells := 0, slots := 0, locals := 274 } : Room) s m ([.ref (a 0), .int x0] : List Value).toArray below meth c H locs 0 0 Q (F0 m 9 ls []) := by
    intro v1 z1 z3 z4 H locs ls hf hP hD hS hl
    rw [f_X12_shunnedInRun_b9] at hf
    refine lv_aload_n hx hb dX12_shunnedInRun_9 rfl (lv_at hl 0 rfl) ?_
    refine va_get (D := D) (ci := 12) (v := .ref (wa 0)) (C := RX12) (T := TX12) (N := 35) hx hb hts kb_inX12 hown hK.1 hP 0 rfl rfl 19 (by decide) (hK.2.w ww_5_219 rfl _) (fun _ h9 => h9) rfl dX12_shunnedInRun_10 ?_
    refine lv_bipush (v := (16 : Int32)) hx hb dX12_shunnedInRun_13 (by decide) ?_
    refine lv_iload_n hx hb dX12_shunnedInRun_15 rfl (lv_at hl 1 rfl) ?_
    refine lv_iadd hx hb dX12_shunnedInRun_16 ?_
    obtain ⟨h_3, hf⟩ := kb_if hf
    refine va_iald (D := D) hx hb hK.1 hP 1 0 rfl rfl h_3 dX12_shunnedInRun_17 ?_
    refine lv_if_ne (tgt := 25) hx hb dX12_shunnedInRun_18 (by decide) (fun c_4 => ?_) (fun c_4 => ?_)
    · rw [if_neg c_4] at hf
      refine lv_aload_n hx hb dX12_shunnedInRun_25 rfl (lv_at hl 0 rfl) ?_
      refine lv_iload_n hx hb dX12_shunnedInRun_26 rfl (lv_at hl 1 rfl) ?_
      obtain ⟨r5, hc5, hf⟩ := kb_bind hf
      refine kb_ci (ws2 := (w_MO dA a (some (ba 0)) q1 g2 g3 g4 g5 (wa 0) (la 0) (ha 0) (ca 0) g10 g11 g12 g13 g14 g15 g16 g17 g18 mo ++ (w_W dA wa z1 ++ (w_Looks dA la y_looks ++ (w_Who dA ha z3 ++ (w_Look dA ca z4 ++ (w_Bus dA ba bu))))))) (kb_rV (n := 1) (As := [.int v1]) (rest := []) hx hb hml hown hK (c_X12_shunnedNow l D dA H.size a wa (some (ba 0)) q1 g2 g3 g4 g5 (la 0) (ha 0) (ca 0) g10 g11 g12 g13 g14 g15 g16 g17 g18 mo z1 v1 r5 hc5) ⟨ww_8_37, ww_8_34, ww_8_36, ws_97, ww_1_12, rfl, by decide, by decide⟩ rfl rfl (by decide +kernel) ⟨Nat.le_of_ble_eq_true rfl, Nat.le_of_ble_eq_true rfl⟩ hP hD hS hA hE [0, 1] rfl (by decide) 0 rfl rfl rfl hl.1 rfl (Nat.le_of_ble_eq_true rfl) dX12_shunnedInRun_27 ⟨Nat.le_of_ble_eq_true rfl, Nat.le_of_ble_eq_true rfl⟩) hP hD hS hA [0, 1] [2, 3, 4, 5, 6, 7, 8, 9, 10, 11, 12, 13, 14, 15, 16, 17, 18, 19, 20] [19, 20, 0, 1, 2, 3, 4, 5, 6, 7, 8, 9, 10, 11, 12, 13, 14, 15, 16, 17, 18] rfl rfl (by decide) (by decide) rfl (by decide) (fun H locs hP hD hS => ?_)
      exact RET _ _ _ _ H _ ls 30 hf hP hD hS dX12_shunnedInRun_30
    · rw [if_pos c_4] at hf
      refine lv_iconst (v := (-1 : Int32)) hx hb dX12_shunnedInRun_21 (by decide) ?_
      refine lv_goto (tgt := 30) hx hb dX12_shunnedInRun_22 (by decide) ?_
      exact RET _ _ _ _ H _ ls 30 hf hP hD hS dX12_shunnedInRun_30
  have B_4 : ∀ (v1 : Int32) (z1 : WT) (z3 : WhoT) (z4 : LookT) (H : Heap) (locs : List Loc) (ls : Array Slot), f_X12_shunnedInRun_b4 mo y_looks bu v1 z1 z3 z4 = some (rv, u1, u3, u4) → va_P D vwCl (w_MO dA a (some (ba 0)) q1 g2 g3 g4 g5 (wa 0) (la 0) (ha 0) (ca 0) g10 g11 g12 g13 g14 g15 g16 g17 g18 mo ++ (w_W dA wa z1 ++ (w_Looks dA la y_looks ++ (w_Who dA ha z3 ++ (w_Look dA ca z4 ++ (w_Bus dA ba bu)))))) H → va_D A (w_MO dA a (some (ba 0)) q1 g2 g3 g4 g5 (wa 0) (la 0) (ha 0) (ca 0) g10 g11 g12 g13 g14 g15 g16 g17 g18 mo ++ (w_W dA wa z1 ++ (w_Looks dA la y_looks ++ (w_Who dA ha z3 ++ (w_Look dA ca z4 ++ (w_Bus dA ba bu)))))) → va_S A s.heap H locs → lv_has ls 2 [(0, .ref (a 0)), (1, .int v1)] → W p l e ({ frames := 12, cells := 0, slots := 0, locals := 274 } : Room) s m ([.ref (a 0), .int x0] : List Value).toArray below meth c H locs 0 0 Q (F0 m 4 ls []) := by
    intro v1 z1 z3 z4 H locs ls hf hP hD hS hl
    rw [f_X12_shunnedInRun_b4] at hf
    refine lv_aload_n hx hb dX12_shunnedInRun_4 rfl (lv_at hl 0 rfl) ?_
    obtain ⟨r2, hc2, hf⟩ := kb_bind hf
    refine kb_ci (ws2 := (w_MO dA a (some (ba 0)) q1 g2 g3 g4 g5 (wa 0) (la 0) (ha 0) (ca 0) g10 g11 g12 g13 g14 g15 g16 g17 g18 mo ++ (w_W dA wa r2.2.1 ++ (w_Looks dA la y_looks ++ (w_Who dA ha r2.2.2.1 ++ (w_Look dA ca r2.2.2.2 ++ (w_Bus dA ba bu))))))) (kb_rV (n := 0) (As := []) (rest := []) hx hb hml hown hK (c_X12_runs l D dA H.size a wa la ha ca ba q1 g2 g3 g4 g5 g10 g11 g12 g13 g14 g15 g16 g17 g18 mo z1 y_looks z3 z4 bu r2.1 r2.2.1 r2.2.2.1 r2.2.2.2 hc2) ⟨ww_7_233, ww_7_230, ww_7_232, ws_94, ww_1_12, rfl, by decide, by decide⟩ rfl rfl (by decide +kernel) ⟨Nat.le_of_ble_eq_true rfl, Nat.le_of_ble_eq_true rfl⟩ hP hD hS hA hE [0, 1, 2, 3, 4, 5, 6, 7, 8, 9, 10, 11, 12, 13, 14, 15, 16, 17, 18, 19, 20] rfl (by decide) 0 rfl rfl rfl hl.1 rfl (Nat.le_of_ble_eq_true rfl) dX12_shunnedInRun_5 ⟨Nat.le_of_ble_eq_true rfl, Nat.le_of_ble_eq_true rfl⟩) hP hD hS hA [0, 1, 2, 3, 4, 5, 6, 7, 8, 9, 10, 11, 12, 13, 14, 15, 16, 17, 18, 19, 20] [] [0, 1, 2, 3, 4, 5, 6, 7, 8, 9, 10, 11, 12, 13, 14, 15, 16, 17, 18, 19, 20] rfl rfl (by decide) (by decide) rfl (by decide) (fun H locs hP hD hS => ?_)
    refine lv_pop hx hb dX12_shunnedInRun_8 rfl ?_
    exact B_9 _ _ _ _ _ _ _ hf hP hD hS (lv_sub hl [0, 1] rfl)
  have E0 : ∀ (H : Heap) (locs : List Loc), va_P D vwCl (w_MO dA a (some (ba 0)) q1 g2 g3 g4 g5 (wa 0) (la 0) (ha 0) (ca 0) g10 g11 g12 g13 g14 g15 g16 g17 g18 mo ++ (w_W dA wa y_w ++ (w_Looks dA la y_looks ++ (w_Who dA ha y_who ++ (w_Look dA ca y_look ++ (w_Bus dA ba bu)))))) H → va_D A (w_MO dA a (some (ba 0)) q1 g2 g3 g4 g5 (wa 0) (la 0) (ha 0) (ca 0) g10 g11 g12 g13 g14 g15 g16 g17 g18 mo ++ (w_W dA wa y_w ++ (w_Looks dA la y_looks ++ (w_Who dA ha y_who ++ (w_Look dA ca y_look ++ (w_Bus dA ba bu)))))) → va_S A s.heap H locs → W p l e ({ frames := 12, cells := 0, slots := 0, locals := 274 } : Room) s m ([.ref (a 0), .int x0] : List Value).toArray below meth c H locs 0 0 Q (F0 m 0 ls []) := by
    intro H locs hP hD hS
    rw [f_X12_shunnedInRun] at hf
    refine lv_aload_n hx hb dX12_shunnedInRun_0 rfl (lv_at hl 0 rfl) ?_
    obtain ⟨r1, hc1, hf⟩ := kb_bind hf
    refine kb_cv (ws2 := (w_MO dA a (some (ba 0)) q1 g2 g3 g4 g5 (wa 0) (la 0) (ha 0) (ca 0) g10 g11 g12 g13 g14 g15 g16 g17 g18 mo ++ (w_W dA wa r1 ++ (w_Looks dA la y_looks ++ (w_Who dA ha y_who ++ (w_Look dA ca y_look ++ (w_Bus dA ba bu))))))) (kb_rV (n := 0) (As := []) (rest := []) hx hb hml hown hK (c_X12_beginsAnew l D dA H.size a wa ba q1 g2 g3 g4 g5 (la 0) (ha 0) (ca 0) g10 g11 g12 g13 g14 g15 g16 g17 g18 mo y_w bu r1 hc1) ⟨ww_7_96, ww_7_93, ww_7_95, ws_70, ww_1_12, rfl, by decide, by decide⟩ rfl rfl (by decide +kernel) ⟨Nat.le_of_ble_eq_true rfl, Nat.le_of_ble_eq_true rfl⟩ hP hD hS hA hE [0, 1, 5, 6, 7, 8, 9, 10, 11, 12, 13, 14, 15, 16, 17, 18, 19, 20] rfl (by decide) 0 rfl rfl rfl hl.1 rfl (Nat.le_of_ble_eq_true rfl) dX12_shunnedInRun_1 ⟨Nat.le_of_ble_eq_true rfl, Nat.le_of_ble_eq_true rfl⟩) hP hD hS hA [0, 1, 5, 6, 7, 8, 9, 10, 11, 12, 13, 14, 15, 16, 17, 18, 19, 20] [2, 3, 4] [3, 4, 0, 1, 2, 5, 6, 7, 8, 9, 10, 11, 12, 13, 14, 15, 16, 17, 18, 19, 20] rfl rfl (by decide) (by decide) rfl (by decide) (fun H locs hP hD hS => ?_)
    exact B_4 _ _ _ _ _ _ _ hf hP hD hS (lv_sub hl [0, 1] rfl)
  exact E0 _ _ hP hD hS

noncomputable def f_X12_dealtOf_b33 (mo : MOT) (bu : BusT) (k18 : Int32 → Int32 → Int32 → Int32 → WT → LooksT → WhoT → LookT → Option (Int32 × WT × LooksT × WhoT × LookT)) (v1 : Int32) (v2 : Int32) (v3 : Int32) (v4 : Int32) (z1 : WT) (z2 : LooksT) (z3 : WhoT) (z4 : LookT) : Option (Int32 × WT × LooksT × WhoT × LookT) := (f_X12_shunnedInRun mo z1 z2 z3 z4 bu v1).bind fun r6 => (if r6.1 < v2 then k18 v1 v2 (v3 + (0 : Int32)) (v4 + (1 : Int32)) r6.2.1 z2 r6.2.2.1 r6.2.2.2 else k18 v1 v2 (v3 + (1 : Int32)) (v4 + (1 : Int32)) r6.2.1 z2 r6.2.2.1 r6.2.2.2)
noncomputable def f_X12_dealtOf_b18 (mo : MOT) (bu : BusT) : Nat → Int32 → Int32 → Int32 → Int32 → WT → LooksT → WhoT → LookT → Option (Int32 × WT × LooksT × WhoT × LookT)
  | 0, _, _, _, _, _, _, _, _ => none
  | n + 1, v1, v2, v3, v4, z1, z2, z3, z4 => (f_X12_factorial mo bu).bind fun r3 => (if r3 ≤ v4 then some (v3, z1, z2, z3, z4) else (f_X12_dealsAnew mo z2 bu v4).bind fun r5 => f_X12_dealtOf_b33 mo bu (f_X12_dealtOf_b18 mo bu n) v1 v2 v3 v4 z1 r5 z3 z4)
noncomputable def f_X12_dealtOf_b6 (mo : MOT) (bu : BusT) (v1 : Int32) (v2 : Int32) (z1 : WT) (z2 : LooksT) (z3 : WhoT) (z4 : LookT) : Option (Int32 × WT × LooksT × WhoT × LookT) := (if v2 = (-1 : Int32) then some ((-1 : Int32), z1, z2, z3, z4) else f_X12_dealtOf_b18 mo bu 4096 v1 v2 (0 : Int32) (0 : Int32) z1 z2 z3 z4)
noncomputable def f_X12_dealtOf (mo : MOT) (y_w : WT) (y_looks : LooksT) (y_who : WhoT) (y_look : LookT) (bu : BusT) (x0 : Int32) : Option (Int32 × WT × LooksT × WhoT × LookT) := (f_X12_shunnedInRun mo y_w y_looks y_who y_look bu x0).bind fun r1 => f_X12_dealtOf_b6 mo bu x0 r1.1 r1.2.1 y_looks r1.2.2.1 r1.2.2.2
set_option maxHeartbeats 4000000 in
set_option maxRecDepth 100000 in
theorem c_X12_dealtOf (l : Launch) (D : va_G) (dA : Nat → ClassId) (sz : Nat) (a : Nat → Nat) (wa : Nat → Nat) (la : Nat → Nat) (ha : Nat → Nat) (ca : Nat → Nat) (ba : Nat → Nat) (q1 : Option Nat) (g2 : Nat) (g3 : Nat) (g4 : Nat) (g5 : Nat) (g10 : Nat) (g11 : Nat) (g12 : Nat) (g13 : Nat) (g14 : Nat) (g15 : Nat) (g16 : Nat) (g17 : Nat) (g18 : Nat) (mo : MOT) (y_w : WT) (y_looks : LooksT) (y_who : WhoT) (y_look : LookT) (bu : BusT) (x0 : Int32) (rv : Int32) (u1 : WT) (u2 : LooksT) (u3 : WhoT) (u4 : LookT) (hf : f_X12_dealtOf mo y_w y_looks y_who y_look bu x0 = some (rv, u1, u2, u3, u4)) : kb_Mi l yX12_dealtOf cX12_dealtOf 5 (some .int) ({ frames := 13, cells := 0, slots := 0, locals := 295 } : Room) D dA [.ref (a 0), .int x0] sz (w_MO dA a (some (ba 0)) q1 g2 g3 g4 g5 (wa 0) (la 0) (ha 0) (ca 0) g10 g11 g12 g13 g14 g15 g16 g17 g18 mo ++ (w_W dA wa y_w ++ (w_Looks dA la y_looks ++ (w_Who dA ha y_who ++ (w_Look dA ca y_look ++ (w_Bus dA ba bu)))))) 0 0 rv (w_MO dA a (some (ba 0)) q1 g2 g3 g4 g5 (wa 0) (la 0) (ha 0) (ca 0) g10 g11 g12 g13 g14 g15 g16 g17 g18 mo ++ (w_W dA wa u1 ++ (w_Looks dA la u2 ++ (w_Who dA ha u3 ++ (w_Look dA ca u4 ++ (w_Bus dA ba bu)))))) := by
  refine Met.ofW (cc := cX12_dealtOf) (maxL := 5) (ret := (some .int)) (by decide) rfl ?_
  intro p e s m args below meth c s₁ B hml hv
  obtain ⟨rfl, hsz, hP, hK, hD0, hE⟩ := hv
  have hx := B.exec
  have hb := B.bytes
  have hr := B.returns
  have hown : s.vm.findClass RX12 = some m.cls := findClass_of_methodNamed B.named
  have hlocks := B.notSynchronized
  have hts : ∀ w ∈ kb_gw, w.before ([.ref (a 0), .int x0] : List Value).toArray s = true := fun w hw => hK.2.1 w hw _
  subst hsz
  have hD := hD0.self (sz := s.heap.size)
  generalize hAe : va_A (w_MO dA a (some (ba 0)) q1 g2 g3 g4 g5 (wa 0) (la 0) (ha 0) (ca 0) g10 g11 g12 g13 g14 g15 g16 g17 g18 mo ++ (w_W dA wa y_w ++ (w_Looks dA la y_looks ++ (w_Who dA ha y_who ++ (w_Look dA ca y_look ++ (w_Bus dA ba bu)))))) s.heap.size = A at hD hE ⊢
  have hA : ∀ q : Nat, s.heap.size ≤ q → A q := fun q h => by rw [← hAe]; exact Or.inr h
  have hS : va_S A s.heap s.heap [] := va_S.rf
  have hl := lv_entry ([.ref (a 0), .int x0]) (n := 5) (Nat.le_of_ble_eq_true rfl)
  rw [lg_entry_eq]
  generalize (lg_sl ([.ref (a 0), .int x0]) ++ List.replicate (5 - (lg_sl ([.ref (a 0), .int x0])).length) Slot.unset).toArray = ls at hl ⊢
  have hl : lv_has ls 5 [(0, .ref (a 0)), (1, .int x0)] := hl
  generalize hQ : MQ below (va_Qi (fun r (_ : Unit) => r = rv) (kb_B D A (w_MO dA a (some (ba 0)) q1 g2 g3 g4 g5 (wa 0) (la 0) (ha 0) (ca 0) g10 g11 g12 g13 g14 g15 g16 g17 g18 mo ++ (w_W dA wa u1 ++ (w_Looks dA la u2 ++ (w_Who dA ha u3 ++ (w_Look dA ca u4 ++ (w_Bus dA ba bu))))))) A) ([.ref (a 0), .int x0] : List Value).toArray s 0 0 A = Q
  show W p l e ({ frames := 13, cells := 0, slots := 0, locals := 295 } : Room) s m ([.ref (a 0), .int x0] : List Value).toArray below meth c s.heap [] 0 0 Q (F0 m 0 ls [])
  have RET : ∀ (r2 : Int32) (w1 : WT) (w2 : LooksT) (w3 : WhoT) (w4 : LookT) (H : Heap) (locs : List Loc) (ls : Array Slot) (pc : Nat), some (r2, w1, w2, w3, w4) = some (rv, u1, u2, u3, u4) → va_P D vwCl (w_MO dA a (some (ba 0)) q1 g2 g3 g4 g5 (wa 0) (la 0) (ha 0) (ca 0) g10 g11 g12 g13 g14 g15 g16 g17 g18 mo ++ (w_W dA wa w1 ++ (w_Looks dA la w2 ++ (w_Who dA ha w3 ++ (w_Look dA ca w4 ++ (w_Bus dA ba bu)))))) H → va_D A (w_MO dA a (some (ba 0)) q1 g2 g3 g4 g5 (wa 0) (la 0) (ha 0) (ca 0) g10 g11 g12 g13 g14 g15 g16 g17 g18 mo ++ (w_W dA wa w1 ++ (w_Looks dA la w2 ++ (w_Who dA ha w3 ++ (w_Look dA ca w4 ++ (w_Bus dA ba bu)))))) → va_S A s.heap H locs → decode cX12_dealtOf pc = .ok (.ireturn, 1) → W p l e ({ frames := 13, cells := 0, slots := 0, locals := 295 } : Room) s m ([.ref (a 0), .int x0] : List Value).toArray below meth c H locs 0 0 Q (F0 m pc ls [.int r2]) := by
    intro r2 w1 w2 w3 w4 H locs ls pc hq hP hD hS hd
    cases hq
    rw [← hQ]
    exact W.iret hx hb hr (fun t ht hW => ⟨⟨_, (), rfl, rfl, by rw [ht]; exact hP, hD⟩, hS.F ht⟩) hS.2.2 hd
  have B_33 : ∀ (k18 : Int32 → Int32 → Int32 → Int32 → WT → LooksT → WhoT → LookT → Option (Int32 × WT × LooksT × WhoT × LookT)) (hk18 : ∀ (v1 : Int32) (v2 : Int32) (v3 : Int32) (v4 : Int32) (z1 : WT) (z2 : LooksT) (z3 : WhoT) (z4 : LookT) (H : Heap) (locs : List Loc) (ls : Array Slot), k18 v1 v2 v3 v4 z1 z2 z3 z4 = some (rv, u1, u2, u3, u4) → va_P D vwCl (w_MO dA a (some (ba 0)) q1 g2 g3 g4 g5 (wa 0) (la 0) (ha 0) (ca 0) g10 g11 g12 g13 g14 g15 g16 g17 g18 mo ++ (w_W dA wa z1 ++ (w_Looks dA la z2 ++ (w_Who dA ha z3 ++ (w_Look dA ca z4 ++ (w_Bus dA ba bu)))))) H → va_D A (w_MO dA a (some (ba 0)) q1 g2 g3 g4 g5 (wa 0) (la 0) (ha 0) (ca 0) g10 g11 g12 g13 g14 g15 g16 g17 g18 mo ++ (w_W dA wa z1 ++ (w_Looks dA la z2 ++ (w_Who dA ha z3 ++ (w_Look dA ca z4 ++ (w_Bus dA ba bu)))))) → va_S A s.heap H locs → lv_has ls 5 [(0, .ref (a 0)), (1, .int v1), (2, .int v2), (3, .int v3), (4, .int v4)] → W p l e ({ frames := 13, cells := 0, slots := 0, locals := 295 } : Room) s m ([.ref (a 0), .int x0] : List Value).toArray below meth c H locs 0 0 Q (F0 m 18 ls [])) (v1 : Int32) (v2 : Int32) (v3 : Int32) (v4 : Int32) (z1 : WT) (z2 : LooksT) (z3 : WhoT) (z4 : LookT) (H : Heap) (locs : List Loc) (ls : Array Slot), f_X12_dealtOf_b33 mo bu k18 v1 v2 v3 v4 z1 z2 z3 z4 = some (rv, u1, u2, u3, u4) → va_P D vwCl (w_MO dA a (some (ba 0)) q1 g2 g3 g4 g5 (wa 0) (la 0) (ha 0) (ca 0) g10 g11 g12 g13 g14 g15 g16 g17 g18 mo ++ (w_W dA wa z1 ++ (w_Looks dA la z2 ++ (w_Who dA ha z3 ++ (w_Look dA ca z4 ++ (w_Bus dA ba bu)))))) H → va_D A (w_MO dA a (some (ba 0)) q1 g2 g3 g4 g5 (wa 0) (la 0) (ha 0) (ca 0) g10 g11 g12 g13 g14 g15 g16 g17 g18 mo ++ (w_W dA wa z1 ++ (w_Looks dA la z2 ++ (w_Who dA ha z3 ++ (w_Look dA ca z4 ++ (w_Bus dA ba bu)))))) → va_S A s.heap H locs → lv_has ls 5 [(0, .ref (a 0)), (1, .int v1), (2, .int v2), (3, .int v3), (4, .int v4)] → W p l e ({ frames := 13, cells := 0, slots := 0, locals := 295 } : Room) s m ([.ref (a 0), .int x0] : List Value).toArray below meth c H locs 0 0 Q (F0 m 33 ls []) := by
    intro k18 hk18 v1 v2 v3 v4 z1 z2 z3 z4 H locs ls hf hP hD hS hl
    rw [f_X12_dealtOf_b33] at hf
    refine lv_iload_n hx hb dX12_dealtOf_33 rfl (lv_at hl 3 rfl) ?_
    refine lv_aload_n hx hb dX12_dealtOf_34 rfl (lv_at hl 0 rfl) ?_
    refine lv_iload_n hx hb dX12_dealtOf_35 rfl (lv_at hl 1 rfl) ?_
    obtain ⟨r6, hc6, hf⟩ := kb_bind hf
    refine kb_ci (ws2 := (w_MO dA a (some (ba 0)) q1 g2 g3 g4 g5 (wa 0) (la 0) (ha 0) (ca 0) g10 g11 g12 g13 g14 g15 g16 g17 g18 mo ++ (w_W dA wa r6.2.1 ++ (w_Looks dA la z2 ++ (w_Who dA ha r6.2.2.1 ++ (w_Look dA ca r6.2.2.2 ++ (w_Bus dA ba bu))))))) (kb_rV (n := 1) (As := [.int v1]) (rest := [.int v3]) hx hb hml hown hK (c_X12_shunnedInRun l D dA H.size a wa la ha ca ba q1 g2 g3 g4 g5 g10 g11 g12 g13 g14 g15 g16 g17 g18 mo z1 z2 z3 z4 bu v1 r6.1 r6.2.1 r6.2.2.1 r6.2.2.2 hc6) ⟨ww_8_166, ww_8_163, ww_8_165, ws_114, ww_1_12, rfl, by decide, by decide⟩ rfl rfl (by decide +kernel) ⟨Nat.le_of_ble_eq_true rfl, Nat.le_of_ble_eq_true rfl⟩ hP hD hS hA hE [0, 1, 2, 3, 4, 5, 6, 7, 8, 9, 10, 11, 12, 13, 14, 15, 16, 17, 18, 19, 20] rfl (by decide) 0 rfl rfl rfl hl.1 rfl (Nat.le_of_ble_eq_true rfl) dX12_dealtOf_36 ⟨Nat.le_of_ble_eq_true rfl, Nat.le_of_ble_eq_true rfl⟩) hP hD hS hA [0, 1, 2, 3, 4, 5, 6, 7, 8, 9, 10, 11, 12, 13, 14, 15, 16, 17, 18, 19, 20] [] [0, 1, 2, 3, 4, 5, 6, 7, 8, 9, 10, 11, 12, 13, 14, 15, 16, 17, 18, 19, 20] rfl rfl (by decide) (by decide) rfl (by decide) (fun H locs hP hD hS => ?_)
    refine lv_iload_n hx hb dX12_dealtOf_39 rfl (lv_at hl 2 rfl) ?_
    refine lv_icmp_lt (tgt := 47) hx hb dX12_dealtOf_40 (by decide) (fun c_7 => ?_) (fun c_7 => ?_)
    · rw [if_pos c_7] at hf
      refine lv_iconst (v := (0 : Int32)) hx hb dX12_dealtOf_47 (by decide) ?_
      refine lv_iadd hx hb dX12_dealtOf_48 ?_
      refine lv_istore_n (lv' := [(3, .int (v3 + (0 : Int32))), (0, .ref (a 0)), (1, .int v1), (2, .int v2), (4, .int v4)]) hx hb dX12_dealtOf_49 rfl hl (by decide) rfl (fun ls hl => ?_)
      refine lv_iinc (v := (v4 + (1 : Int32))) (lv' := [(4, .int (v4 + (1 : Int32))), (3, .int (v3 + (0 : Int32))), (0, .ref (a 0)), (1, .int v1), (2, .int v2)]) hx hb dX12_dealtOf_50 hl (k := 4) rfl (by rfl) (by decide) rfl (fun ls hl => ?_)
      refine lv_goto (tgt := 18) hx hb dX12_dealtOf_53 (by decide) ?_
      exact hk18 _ _ _ _ _ _ _ _ _ _ _ hf hP hD hS (lv_sub hl [2, 3, 4, 1, 0] rfl)
    · rw [if_neg c_7] at hf
      refine lv_iconst (v := (1 : Int32)) hx hb dX12_dealtOf_43 (by decide) ?_
      refine lv_goto (tgt := 48) hx hb dX12_dealtOf_44 (by decide) ?_
      refine lv_iadd hx hb dX12_dealtOf_48 ?_
      refine lv_istore_n (lv' := [(3, .int (v3 + (1 : Int32))), (0, .ref (a 0)), (1, .int v1), (2, .int v2), (4, .int v4)]) hx hb dX12_dealtOf_49 rfl hl (by decide) rfl (fun ls hl => ?_)
      refine lv_iinc (v := (v4 + (1 : Int32))) (lv' := [(4, .int (v4 + (1 : Int32))), (3, .int (v3 + (1 : Int32))), (0, .ref (a 0)), (1, .int v1), (2, .int v2)]) hx hb dX12_dealtOf_50 hl (k := 4) rfl (by rfl) (by decide) rfl (fun ls hl => ?_)
      refine lv_goto (tgt := 18) hx hb dX12_dealtOf_53 (by decide) ?_
      exact hk18 _ _ _ _ _ _ _ _ _ _ _ hf hP hD hS (lv_sub hl [2, 3, 4, 1, 0] rfl)
  have B_18 : ∀ (n : Nat) (v1 : Int32) (v2 : Int32) (v3 : Int32) (v4 : Int32) (z1 : WT) (z2 : LooksT) (z3 : WhoT) (z4 : LookT) (H : Heap) (locs : List Loc) (ls : Array Slot), f_X12_dealtOf_b18 mo bu n v1 v2 v3 v4 z1 z2 z3 z4 = some (rv, u1, u2, u3, u4) → va_P D vwCl (w_MO dA a (some (ba 0)) q1 g2 g3 g4 g5 (wa 0) (la 0) (ha 0) (ca 0) g10 g11 g12 g13 g14 g15 g16 g17 g18 mo ++ (w_W dA wa z1 ++ (w_Looks dA la z2 ++ (w_Who dA ha z3 ++ (w_Look dA ca z4 ++ (w_Bus dA ba bu)))))) H → va_D A (w_MO dA a (some (ba 0)) q1 g2 g3 g4 g5 (wa 0) (la 0) (ha 0) (ca 0) g10 g11 g12 g13 g14 g15 g16 g17 g18 mo ++ (w_W dA wa z1 ++ (w_Looks dA la z2 ++ (w_Who dA ha z3 ++ (w_Look dA ca z4 ++ (w_Bus dA ba bu)))))) → va_S A s.heap H locs → lv_has ls 5 [(0, .ref (a 0)), (1, .int v1), (2, .int v2), (3, .int v3), (4, .int v4)] → W p l e ({ frames := 13, cells := 0, slots := 0, locals := 295 } : Room) s m ([.ref (a 0), .int x0] : List Value).toArray below meth c H locs 0 0 Q (F0 m 18 ls []) := by
    intro n
    induction n with
    | zero =>
      intro v1 v2 v3 v4 z1 z2 z3 z4 H locs ls hf
      exact absurd hf (by simp [f_X12_dealtOf_b18])
    | succ n ih =>
      intro v1 v2 v3 v4 z1 z2 z3 z4 H locs ls hf hP hD hS hl
      rw [f_X12_dealtOf_b18] at hf
      refine lv_iload hx hb dX12_dealtOf_18 (lv_at hl 4 rfl) ?_
      refine lv_aload_n hx hb dX12_dealtOf_20 rfl (lv_at hl 0 rfl) ?_
      obtain ⟨r3, hc3, hf⟩ := kb_bind hf
      refine kb_ci (ws2 := (w_MO dA a (some (ba 0)) q1 g2 g3 g4 g5 (wa 0) (la 0) (ha 0) (ca 0) g10 g11 g12 g13 g14 g15 g16 g17 g18 mo ++ (w_W dA wa z1 ++ (w_Looks dA la z2 ++ (w_Who dA ha z3 ++ (w_Look dA ca z4 ++ (w_Bus dA ba bu))))))) (kb_rV (n := 0) (As := []) (rest := [.int v4]) hx hb hml hown hK (c_X12_factorial l D dA H.size a ba q1 g2 g3 g4 g5 (wa 0) (la 0) (ha 0) (ca 0) g10 g11 g12 g13 g14 g15 g16 g17 g18 mo bu r3 hc3) ⟨ww_8_170, ww_8_167, ww_8_169, ws_115, ww_1_12, rfl, by decide, by decide⟩ rfl rfl (by decide +kernel) ⟨Nat.le_of_ble_eq_true rfl, Nat.le_of_ble_eq_true rfl⟩ hP hD hS hA hE [0, 5, 6, 7, 8, 9, 10, 11, 12, 13, 14, 15, 16, 17, 18, 19, 20] rfl (by decide) 0 rfl rfl rfl hl.1 rfl (Nat.le_of_ble_eq_true rfl) dX12_dealtOf_21 ⟨Nat.le_of_ble_eq_true rfl, Nat.le_of_ble_eq_true rfl⟩) hP hD hS hA [0, 5, 6, 7, 8, 9, 10, 11, 12, 13, 14, 15, 16, 17, 18, 19, 20] [1, 2, 3, 4] [4, 0, 1, 2, 3, 5, 6, 7, 8, 9, 10, 11, 12, 13, 14, 15, 16, 17, 18, 19, 20] rfl rfl (by decide) (by decide) rfl (by decide) (fun H locs hP hD hS => ?_)
      refine lv_icmp_ge (tgt := 56) hx hb dX12_dealtOf_24 (by decide) (fun c_4 => ?_) (fun c_4 => ?_)
      · rw [if_pos c_4] at hf
        refine lv_iload_n hx hb dX12_dealtOf_56 rfl (lv_at hl 3 rfl) ?_
        exact RET _ _ _ _ _ H _ ls 57 hf hP hD hS dX12_dealtOf_57
      · rw [if_neg c_4] at hf
        refine lv_aload_n hx hb dX12_dealtOf_27 rfl (lv_at hl 0 rfl) ?_
        refine lv_iload hx hb dX12_dealtOf_28 (lv_at hl 4 rfl) ?_
        obtain ⟨r5, hc5, hf⟩ := kb_bind hf
        refine kb_cv (ws2 := (w_MO dA a (some (ba 0)) q1 g2 g3 g4 g5 (wa 0) (la 0) (ha 0) (ca 0) g10 g11 g12 g13 g14 g15 g16 g17 g18 mo ++ (w_W dA wa z1 ++ (w_Looks dA la r5 ++ (w_Who dA ha z3 ++ (w_Look dA ca z4 ++ (w_Bus dA ba bu))))))) (kb_rV (n := 1) (As := [.int v4]) (rest := []) hx hb hml hown hK (c_X12_dealsAnew l D dA H.size a la ba q1 g2 g3 g4 g5 (wa 0) (ha 0) (ca 0) g10 g11 g12 g13 g14 g15 g16 g17 g18 mo z2 bu v4 r5 hc5) ⟨ww_8_174, ww_8_171, ww_8_173, ws_116, ww_1_12, rfl, by decide, by decide⟩ rfl rfl (by decide +kernel) ⟨Nat.le_of_ble_eq_true rfl, Nat.le_of_ble_eq_true rfl⟩ hP hD hS hA hE [0, 2, 5, 6, 7, 8, 9, 10, 11, 12, 13, 14, 15, 16, 17, 18, 19, 20] rfl (by decide) 0 rfl rfl rfl hl.1 rfl (Nat.le_of_ble_eq_true rfl) dX12_dealtOf_30 ⟨Nat.le_of_ble_eq_true rfl, Nat.le_of_ble_eq_true rfl⟩) hP hD hS hA [0, 2, 5, 6, 7, 8, 9, 10, 11, 12, 13, 14, 15, 16, 17, 18, 19, 20] [1, 3, 4] [3, 0, 4, 1, 2, 5, 6, 7, 8, 9, 10, 11, 12, 13, 14, 15, 16, 17, 18, 19, 20] rfl rfl (by decide) (by decide) rfl (by decide) (fun H locs hP hD hS => ?_)
        exact B_33 (f_X12_dealtOf_b18 mo bu n) ih _ _ _ _ _ _ _ _ _ _ _ hf hP hD hS (lv_sub hl [0, 1, 2, 3, 4] rfl)
  have B_6 : ∀ (v1 : Int32) (v2 : Int32) (z1 : WT) (z2 : LooksT) (z3 : WhoT) (z4 : LookT) (H : Heap) (locs : List Loc) (ls : Array Slot), f_X12_dealtOf_b6 mo bu v1 v2 z1 z2 z3 z4 = some (rv, u1, u2, u3, u4) → va_P D vwCl (w_MO dA a (some (ba 0)) q1 g2 g3 g4 g5 (wa 0) (la 0) (ha 0) (ca 0) g10 g11 g12 g13 g14 g15 g16 g17 g18 mo ++ (w_W dA wa z1 ++ (w_Looks dA la z2 ++ (w_Who dA ha z3 ++ (w_Look dA ca z4 ++ (w_Bus dA ba bu)))))) H → va_D A (w_MO dA a (some (ba 0)) q1 g2 g3 g4 g5 (wa 0) (la 0) (ha 0) (ca 0) g10 g11 g12 g13 g14 g15 g16 g17 g18 mo ++ (w_W dA wa z1 ++ (w_Looks dA la z2 ++ (w_Who dA ha z3 ++ (w_Look dA ca z4 ++ (w_Bus dA ba bu)))))) → va_S A s.heap H locs → lv_has ls 5 [(0, .ref (a 0)), (1, .int v1), (2, .int v2)] → W p l e ({ frames := 13, cells := 0, slots := 0, locals := 295 } : Room) s m ([.ref (a 0), .int x0] : List Value).toArray below meth c H locs 0 0 Q (F0 m 6 ls []) := by
    intro v1 v2 z1 z2 z3 z4 H locs ls hf hP hD hS hl
    rw [f_X12_dealtOf_b6] at hf
    refine lv_iload_n hx hb dX12_dealtOf_6 rfl (lv_at hl 2 rfl) ?_
    refine lv_iconst (v := (-1 : Int32)) hx hb dX12_dealtOf_7 (by decide) ?_
    refine lv_icmp_ne (tgt := 13) hx hb dX12_dealtOf_8 (by decide) (fun c_2 => ?_) (fun c_2 => ?_)
    · rw [if_neg c_2] at hf
      refine lv_iconst (v := (0 : Int32)) hx hb dX12_dealtOf_13 (by decide) ?_
      refine lv_istore_n (lv' := [(3, .int (0 : Int32)), (0, .ref (a 0)), (1, .int v1), (2, .int v2)]) hx hb dX12_dealtOf_14 rfl hl (by decide) rfl (fun ls hl => ?_)
      refine lv_iconst (v := (0 : Int32)) hx hb dX12_dealtOf_15 (by decide) ?_
      refine lv_istore (lv' := [(4, .int (0 : Int32)), (3, .int (0 : Int32)), (0, .ref (a 0)), (1, .int v1), (2, .int v2)]) hx hb dX12_dealtOf_16 hl (by decide) rfl (fun ls hl => ?_)
      exact B_18 4096 _ _ _ _ _ _ _ _ _ _ _ hf hP hD hS (lv_sub hl [2, 3, 4, 1, 0] rfl)
    · rw [if_pos c_2] at hf
      refine lv_iconst (v := (-1 : Int32)) hx hb dX12_dealtOf_11 (by decide) ?_
      exact RET _ _ _ _ _ H _ ls 12 hf hP hD hS dX12_dealtOf_12
  have E0 : ∀ (H : Heap) (locs : List Loc), va_P D vwCl (w_MO dA a (some (ba 0)) q1 g2 g3 g4 g5 (wa 0) (la 0) (ha 0) (ca 0) g10 g11 g12 g13 g14 g15 g16 g17 g18 mo ++ (w_W dA wa y_w ++ (w_Looks dA la y_looks ++ (w_Who dA ha y_who ++ (w_Look dA ca y_look ++ (w_Bus dA ba bu)))))) H → va_D A (w_MO dA a (some (ba 0)) q1 g2 g3 g4 g5 (wa 0) (la 0) (ha 0) (ca 0) g10 g11 g12 g13 g14 g15 g16 g17 g18 mo ++ (w_W dA wa y_w ++ (w_Looks dA la y_looks ++ (w_Who dA ha y_who ++ (w_Look dA ca y_look ++ (w_Bus dA ba bu)))))) → va_S A s.heap H locs → W p l e ({ frames := 13, cells := 0, slots := 0, locals := 295 } : Room) s m ([.ref (a 0), .int x0] : List Value).toArray below meth c H locs 0 0 Q (F0 m 0 ls []) := by
    intro H locs hP hD hS
    rw [f_X12_dealtOf] at hf
    refine lv_aload_n hx hb dX12_dealtOf_0 rfl (lv_at hl 0 rfl) ?_
    refine lv_iload_n hx hb dX12_dealtOf_1 rfl (lv_at hl 1 rfl) ?_
    obtain ⟨r1, hc1, hf⟩ := kb_bind hf
    refine kb_ci (ws2 := (w_MO dA a (some (ba 0)) q1 g2 g3 g4 g5 (wa 0) (la 0) (ha 0) (ca 0) g10 g11 g12 g13 g14 g15 g16 g17 g18 mo ++ (w_W dA wa r1.2.1 ++ (w_Looks dA la y_looks ++ (w_Who dA ha r1.2.2.1 ++ (w_Look dA ca r1.2.2.2 ++ (w_Bus dA ba bu))))))) (kb_rV (n := 1) (As := [.int x0]) (rest := []) hx hb hml hown hK (c_X12_shunnedInRun l D dA H.size a wa la ha ca ba q1 g2 g3 g4 g5 g10 g11 g12 g13 g14 g15 g16 g17 g18 mo y_w y_looks y_who y_look bu x0 r1.1 r1.2.1 r1.2.2.1 r1.2.2.2 hc1) ⟨ww_8_166, ww_8_163, ww_8_165, ws_114, ww_1_12, rfl, by decide, by decide⟩ rfl rfl (by decide +kernel) ⟨Nat.le_of_ble_eq_true rfl, Nat.le_of_ble_eq_true rfl⟩ hP hD hS hA hE [0, 1, 2, 3, 4, 5, 6, 7, 8, 9, 10, 11, 12, 13, 14, 15, 16, 17, 18, 19, 20] rfl (by decide) 0 rfl rfl rfl hl.1 rfl (Nat.le_of_ble_eq_true rfl) dX12_dealtOf_2 ⟨Nat.le_of_ble_eq_true rfl, Nat.le_of_ble_eq_true rfl⟩) hP hD hS hA [0, 1, 2, 3, 4, 5, 6, 7, 8, 9, 10, 11, 12, 13, 14, 15, 16, 17, 18, 19, 20] [] [0, 1, 2, 3, 4, 5, 6, 7, 8, 9, 10, 11, 12, 13, 14, 15, 16, 17, 18, 19, 20] rfl rfl (by decide) (by decide) rfl (by decide) (fun H locs hP hD hS => ?_)
    refine lv_istore_n (lv' := [(2, .int r1.1), (0, .ref (a 0)), (1, .int x0)]) hx hb dX12_dealtOf_5 rfl hl (by decide) rfl (fun ls hl => ?_)
    exact B_6 _ _ _ _ _ _ _ _ _ hf hP hD hS (lv_sub hl [1, 2, 0] rfl)
  exact E0 _ _ hP hD hS

noncomputable def f_X12_dealt_b87 (bu : BusT) (k61 : Int32 → Int32 → MOT → LooksT → WhoT → LookT → WT → Option (Int32 × MOT × LooksT × WhoT × LookT × WT)) (v2 : Int32) (v3 : Int32) (z0 : MOT) (z1 : LooksT) (z2 : WhoT) (z3 : LookT) (z5 : WT) : Option (Int32 × MOT × LooksT × WhoT × LookT × WT) := k61 v2 (v3 + (1 : Int32)) z0 z1 z2 z3 z5
noncomputable def f_X12_dealt_b61 (bu : BusT) : Nat → Int32 → Int32 → MOT → LooksT → WhoT → LookT → WT → Option (Int32 × MOT × LooksT × WhoT × LookT × WT)
  | 0, _, _, _, _, _, _, _ => none
  | n + 1, v2, v3, z0, z1, z2, z3, z5 => (if (bu_riders bu) ≤ v3 then (if v2 = (-1 : Int32) then (f_X12_refused z0 (5 : Int32)).bind fun r8 => some (r8.1, r8.2, z1, z2, z3, z5) else (f_X12_done z0 v2).bind fun r7 => some (r7.1, r7.2, z1, z2, z3, z5)) else if kb_in? v3 8 then if kb_in? v3 8 then f_X12_dealt_b87 bu (f_X12_dealt_b61 bu n) v2 v3 z0 (yLooks_set_r z1 (upd (yLooks_r z1) (v3).toNatClampNeg ((bu_looks bu) (v3).toNatClampNeg))) z2 z3 z5 else none else none)
noncomputable def f_X12_dealt_b51 (bu : BusT) (v2 : Int32) (z0 : MOT) (z1 : LooksT) (z2 : WhoT) (z3 : LookT) (z5 : WT) : Option (Int32 × MOT × LooksT × WhoT × LookT × WT) := f_X12_dealt_b61 bu 4096 v2 (0 : Int32) z0 z1 z2 z3 z5
noncomputable def f_X12_dealt_b5 (bu : BusT) (v1 : Int32) (z0 : MOT) (z1 : LooksT) (z2 : WhoT) (z3 : LookT) (z5 : WT) : Option (Int32 × MOT × LooksT × WhoT × LookT × WT) := (f_X12_isRider z0 bu v1).bind fun r1 => (if r1 = 0 then (f_X12_refused z0 (1 : Int32)).bind fun r12 => some (r12.1, r12.2, z1, z2, z3, z5) else (if (bu_riders bu) ≤ (6 : Int32) then (f_X12_dealtOf z0 z5 z1 z2 z3 bu v1).bind fun r4 => f_X12_dealt_b51 bu r4.1 z0 r4.2.2.1 r4.2.2.2.1 r4.2.2.2.2 r4.2.1 else (f_X12_refused z0 (3 : Int32)).bind fun r11 => some (r11.1, r11.2, z1, z2, z3, z5)))
noncomputable def f_X12_dealt (mo : MOT) (y_looks : LooksT) (y_who : WhoT) (y_look : LookT) (bu : BusT) (y_other : WT) (x0 : Int32) : Option (Int32 × MOT × LooksT × WhoT × LookT × WT) := f_X12_dealt_b5 bu x0 (mo_set_thrown mo (0 : Int32)) y_looks y_who y_look y_other
set_option maxHeartbeats 4000000 in
set_option maxRecDepth 100000 in
theorem c_X12_dealt (l : Launch) (D : va_G) (dA : Nat → ClassId) (sz : Nat) (a : Nat → Nat) (la : Nat → Nat) (ha : Nat → Nat) (ca : Nat → Nat) (ba : Nat → Nat) (za : Nat → Nat) (q1 : Option Nat) (g2 : Nat) (g3 : Nat) (g5 : Nat) (g10 : Nat) (g11 : Nat) (g12 : Nat) (g13 : Nat) (g14 : Nat) (g15 : Nat) (g16 : Nat) (g17 : Nat) (g18 : Nat) (mo : MOT) (y_looks : LooksT) (y_who : WhoT) (y_look : LookT) (bu : BusT) (y_other : WT) (x0 : Int32) (rv : Int32) (u0 : MOT) (u1 : LooksT) (u2 : WhoT) (u3 : LookT) (u5 : WT) (hf : f_X12_dealt mo y_looks y_who y_look bu y_other x0 = some (rv, u0, u1, u2, u3, u5)) : kb_Mi l yX12_dealt cX12_dealt 4 (some .int) ({ frames := 14, cells := 0, slots := 0, locals := 319 } : Room) D dA [.ref (a 0), .int x0] sz (w_MO dA a (some (ba 0)) q1 g2 g3 (za 0) g5 g3 (la 0) (ha 0) (ca 0) g10 g11 g12 g13 g14 g15 g16 g17 g18 mo ++ (w_Looks dA la y_looks ++ (w_Who dA ha y_who ++ (w_Look dA ca y_look ++ (w_Bus dA ba bu ++ (w_W dA za y_other)))))) 0 0 rv (w_MO dA a (some (ba 0)) q1 g2 g3 (za 0) g5 g3 (la 0) (ha 0) (ca 0) g10 g11 g12 g13 g14 g15 g16 g17 g18 u0 ++ (w_Looks dA la u1 ++ (w_Who dA ha u2 ++ (w_Look dA ca u3 ++ (w_Bus dA ba bu ++ (w_W dA za u5)))))) := by
  refine Met.ofW (cc := cX12_dealt) (maxL := 4) (ret := (some .int)) (by decide) rfl ?_
  intro p e s m args below meth c s₁ B hml hv
  obtain ⟨rfl, hsz, hP, hK, hD0, hE⟩ := hv
  have hx := B.exec
  have hb := B.bytes
  have hr := B.returns
  have hown : s.vm.findClass RX12 = some m.cls := findClass_of_methodNamed B.named
  have hlocks := B.notSynchronized
  have hts : ∀ w ∈ kb_gw, w.before ([.ref (a 0), .int x0] : List Value).toArray s = true := fun w hw => hK.2.1 w hw _
  subst hsz
  have hD := hD0.self (sz := s.heap.size)
  generalize hAe : va_A (w_MO dA a (some (ba 0)) q1 g2 g3 (za 0) g5 g3 (la 0) (ha 0) (ca 0) g10 g11 g12 g13 g14 g15 g16 g17 g18 mo ++ (w_Looks dA la y_looks ++ (w_Who dA ha y_who ++ (w_Look dA ca y_look ++ (w_Bus dA ba bu ++ (w_W dA za y_other)))))) s.heap.size = A at hD hE ⊢
  have hA : ∀ q : Nat, s.heap.size ≤ q → A q := fun q h => by rw [← hAe]; exact Or.inr h
  have hS : va_S A s.heap s.heap [] := va_S.rf
  have hl := lv_entry ([.ref (a 0), .int x0]) (n := 4) (Nat.le_of_ble_eq_true rfl)
  rw [lg_entry_eq]
  generalize (lg_sl ([.ref (a 0), .int x0]) ++ List.replicate (4 - (lg_sl ([.ref (a 0), .int x0])).length) Slot.unset).toArray = ls at hl ⊢
  have hl : lv_has ls 4 [(0, .ref (a 0)), (1, .int x0)] := hl
  generalize hQ : MQ below (va_Qi (fun r (_ : Unit) => r = rv) (kb_B D A (w_MO dA a (some (ba 0)) q1 g2 g3 (za 0) g5 g3 (la 0) (ha 0) (ca 0) g10 g11 g12 g13 g14 g15 g16 g17 g18 u0 ++ (w_Looks dA la u1 ++ (w_Who dA ha u2 ++ (w_Look dA ca u3 ++ (w_Bus dA ba bu ++ (w_W dA za u5))))))) A) ([.ref (a 0), .int x0] : List Value).toArray s 0 0 A = Q
  show W p l e ({ frames := 14, cells := 0, slots := 0, locals := 319 } : Room) s m ([.ref (a 0), .int x0] : List Value).toArray below meth c s.heap [] 0 0 Q (F0 m 0 ls [])
  have RET : ∀ (r2 : Int32) (w0 : MOT) (w1 : LooksT) (w2 : WhoT) (w3 : LookT) (w5 : WT) (H : Heap) (locs : List Loc) (ls : Array Slot) (pc : Nat), some (r2, w0, w1, w2, w3, w5) = some (rv, u0, u1, u2, u3, u5) → va_P D vwCl (w_MO dA a (some (ba 0)) q1 g2 g3 (za 0) g5 g3 (la 0) (ha 0) (ca 0) g10 g11 g12 g13 g14 g15 g16 g17 g18 w0 ++ (w_Looks dA la w1 ++ (w_Who dA ha w2 ++ (w_Look dA ca w3 ++ (w_Bus dA ba bu ++ (w_W dA za w5)))))) H → va_D A (w_MO dA a (some (ba 0)) q1 g2 g3 (za 0) g5 g3 (la 0) (ha 0) (ca 0) g10 g11 g12 g13 g14 g15 g16 g17 g18 w0 ++ (w_Looks dA la w1 ++ (w_Who dA ha w2 ++ (w_Look dA ca w3 ++ (w_Bus dA ba bu ++ (w_W dA za w5)))))) → va_S A s.heap H locs → decode cX12_dealt pc = .ok (.ireturn, 1) → W p l e ({ frames := 14, cells := 0, slots := 0, locals := 319 } : Room) s m ([.ref (a 0), .int x0] : List Value).toArray below meth c H locs 0 0 Q (F0 m pc ls [.int r2]) := by
    intro r2 w0 w1 w2 w3 w5 H locs ls pc hq hP hD hS hd
    cases hq
    rw [← hQ]
    exact W.iret hx hb hr (fun t ht hW => ⟨⟨_, (), rfl, rfl, by rw [ht]; exact hP, hD⟩, hS.F ht⟩) hS.2.2 hd
  have B_87 : ∀ (k61 : Int32 → Int32 → MOT → LooksT → WhoT → LookT → WT → Option (Int32 × MOT × LooksT × WhoT × LookT × WT)) (hk61 : ∀ (v2 : Int32) (v3 : Int32) (z0 : MOT) (z1 : LooksT) (z2 : WhoT) (z3 : LookT) (z5 : WT) (H : Heap) (locs : List Loc) (ls : Array Slot), k61 v2 v3 z0 z1 z2 z3 z5 = some (rv, u0, u1, u2, u3, u5) → va_P D vwCl (w_MO dA a (some (ba 0)) q1 g2 g3 (za 0) g5 g3 (la 0) (ha 0) (ca 0) g10 g11 g12 g13 g14 g15 g16 g17 g18 z0 ++ (w_Looks dA la z1 ++ (w_Who dA ha z2 ++ (w_Look dA ca z3 ++ (w_Bus dA ba bu ++ (w_W dA za z5)))))) H → va_D A (w_MO dA a (some (ba 0)) q1 g2 g3 (za 0) g5 g3 (la 0) (ha 0) (ca 0) g10 g11 g12 g13 g14 g15 g16 g17 g18 z0 ++ (w_Looks dA la z1 ++ (w_Who dA ha z2 ++ (w_Look dA ca z3 ++ (w_Bus dA ba bu ++ (w_W dA za z5)))))) → va_S A s.heap H locs → lv_has ls 4 [(0, .ref (a 0)), (2, .int v2), (3, .int v3)] → W p l e ({ frames := 14, cells := 0, slots := 0, locals := 319 } : Room) s m ([.ref (a 0), .int x0] : List Value).toArray below meth c H locs 0 0 Q (F0 m 61 ls [])) (v2 : Int32) (v3 : Int32) (z0 : MOT) (z1 : LooksT) (z2 : WhoT) (z3 : LookT) (z5 : WT) (H : Heap) (locs : List Loc) (ls : Array Slot), f_X12_dealt_b87 bu k61 v2 v3 z0 z1 z2 z3 z5 = some (rv, u0, u1, u2, u3, u5) → va_P D vwCl (w_MO dA a (some (ba 0)) q1 g2 g3 (za 0) g5 g3 (la 0) (ha 0) (ca 0) g10 g11 g12 g13 g14 g15 g16 g17 g18 z0 ++ (w_Looks dA la z1 ++ (w_Who dA ha z2 ++ (w_Look dA ca z3 ++ (w_Bus dA ba bu ++ (w_W dA za z5)))))) H → va_D A (w_MO dA a (some (ba 0)) q1 g2 g3 (za 0) g5 g3 (la 0) (ha 0) (ca 0) g10 g11 g12 g13 g14 g15 g16 g17 g18 z0 ++ (w_Looks dA la z1 ++ (w_Who dA ha z2 ++ (w_Look dA ca z3 ++ (w_Bus dA ba bu ++ (w_W dA za z5)))))) → va_S A s.heap H locs → lv_has ls 4 [(0, .ref (a 0)), (2, .int v2), (3, .int v3)] → W p l e ({ frames := 14, cells := 0, slots := 0, locals := 319 } : Room) s m ([.ref (a 0), .int x0] : List Value).toArray below meth c H locs 0 0 Q (F0 m 87 ls []) := by
    intro k61 hk61 v2 v3 z0 z1 z2 z3 z5 H locs ls hf hP hD hS hl
    rw [f_X12_dealt_b87] at hf
    refine lv_iinc (v := (v3 + (1 : Int32))) (lv' := [(3, .int (v3 + (1 : Int32))), (0, .ref (a 0)), (2, .int v2)]) hx hb dX12_dealt_87 hl (k := 2) rfl (by rfl) (by decide) rfl (fun ls hl => ?_)
    refine lv_goto (tgt := 61) hx hb dX12_dealt_90 (by decide) ?_
    exact hk61 _ _ _ _ _ _ _ _ _ _ hf hP hD hS (lv_sub hl [1, 2, 0] rfl)
  have B_61 : ∀ (n : Nat) (v2 : Int32) (v3 : Int32) (z0 : MOT) (z1 : LooksT) (z2 : WhoT) (z3 : LookT) (z5 : WT) (H : Heap) (locs : List Loc) (ls : Array Slot), f_X12_dealt_b61 bu n v2 v3 z0 z1 z2 z3 z5 = some (rv, u0, u1, u2, u3, u5) → va_P D vwCl (w_MO dA a (some (ba 0)) q1 g2 g3 (za 0) g5 g3 (la 0) (ha 0) (ca 0) g10 g11 g12 g13 g14 g15 g16 g17 g18 z0 ++ (w_Looks dA la z1 ++ (w_Who dA ha z2 ++ (w_Look dA ca z3 ++ (w_Bus dA ba bu ++ (w_W dA za z5)))))) H → va_D A (w_MO dA a (some (ba 0)) q1 g2 g3 (za 0) g5 g3 (la 0) (ha 0) (ca 0) g10 g11 g12 g13 g14 g15 g16 g17 g18 z0 ++ (w_Looks dA la z1 ++ (w_Who dA ha z2 ++ (w_Look dA ca z3 ++ (w_Bus dA ba bu ++ (w_W dA za z5)))))) → va_S A s.heap H locs → lv_has ls 4 [(0, .ref (a 0)), (2, .int v2), (3, .int v3)] → W p l e ({ frames := 14, cells := 0, slots := 0, locals := 319 } : Room) s m ([.ref (a 0), .int x0] : List Value).toArray below meth c H locs 0 0 Q (F0 m 61 ls []) := by
    intro n
    induction n with
    | zero =>
      intro v2 v3 z0 z1 z2 z3 z5 H locs ls hf
      exact absurd hf (by simp [f_X12_dealt_b61])
    | succ n ih =>
      intro v2 v3 z0 z1 z2 z3 z5 H locs ls hf hP hD hS hl
      rw [f_X12_dealt_b61] at hf
      refine lv_iload_n hx hb dX12_dealt_61 rfl (lv_at hl 2 rfl) ?_
      refine lv_aload_n hx hb dX12_dealt_62 rfl (lv_at hl 0 rfl) ?_
      refine va_get (D := D) (ci := 12) (v := .ref (ba 0)) (C := RX12) (T := TX12) (N := 35) hx hb hts kb_inX12 hown hK.1 hP 0 rfl rfl 3 (by decide) (hK.2.w ww_5_203 rfl _) (fun _ h9 => h9) rfl dX12_dealt_63 ?_
      refine va_getN (D := D) (ci := 11) (v := .int (bu_riders bu)) (C := RX11) (T := TX11) (N := 26) hx hb hts kb_inX11 hown hK.1 hP 4 rfl rfl 7 (by decide) (hK.2.nb ww_6_96 rfl rfl _) (fun _ h9 => h9) rfl dX12_dealt_66 ?_
      refine lv_icmp_ge (tgt := 93) hx hb dX12_dealt_69 (by decide) (fun c_5 => ?_) (fun c_5 => ?_)
      · rw [if_pos c_5] at hf
        refine lv_iload_n hx hb dX12_dealt_93 rfl (lv_at hl 1 rfl) ?_
        refine lv_iconst (v := (-1 : Int32)) hx hb dX12_dealt_94 (by decide) ?_
        refine lv_icmp_ne (tgt := 106) hx hb dX12_dealt_95 (by decide) (fun c_6 => ?_) (fun c_6 => ?_)
        · rw [if_neg c_6] at hf
          refine lv_aload_n hx hb dX12_dealt_106 rfl (lv_at hl 0 rfl) ?_
          refine lv_iload_n hx hb dX12_dealt_107 rfl (lv_at hl 1 rfl) ?_
          obtain ⟨r7, hc7, hf⟩ := kb_bind hf
          refine kb_ci (ws2 := (w_MO dA a (some (ba 0)) q1 g2 g3 (za 0) g5 g3 (la 0) (ha 0) (ca 0) g10 g11 g12 g13 g14 g15 g16 g17 g18 r7.2 ++ (w_Looks dA la z1 ++ (w_Who dA ha z2 ++ (w_Look dA ca z3 ++ (w_Bus dA ba bu ++ (w_W dA za z5))))))) (kb_rV (n := 1) (As := [.int v2]) (rest := []) hx hb hml hown hK (c_X12_done l D dA H.size a (some (ba 0)) q1 g2 g3 (za 0) g5 g3 (la 0) (ha 0) (ca 0) g10 g11 g12 g13 g14 g15 g16 g17 g18 z0 v2 r7.1 r7.2 hc7) ⟨ww_7_100, ww_7_97, ww_7_99, ws_71, ww_1_12, rfl, by decide, by decide⟩ rfl rfl (by decide +kernel) ⟨Nat.le_of_ble_eq_true rfl, Nat.le_of_ble_eq_true rfl⟩ hP hD hS hA hE [0] rfl (by decide) 0 rfl rfl rfl hl.1 rfl (Nat.le_of_ble_eq_true rfl) dX12_dealt_108 ⟨Nat.le_of_ble_eq_true rfl, Nat.le_of_ble_eq_true rfl⟩) hP hD hS hA [0] [1, 2, 3, 4, 5, 6, 7, 8, 9, 10, 11, 12, 13, 14, 15, 16, 17, 18, 19, 20] [20, 0, 1, 2, 3, 4, 5, 6, 7, 8, 9, 10, 11, 12, 13, 14, 15, 16, 17, 18, 19] rfl rfl (by decide) (by decide) rfl (by decide) (fun H locs hP hD hS => ?_)
          exact RET _ _ _ _ _ _ H _ ls 111 hf hP hD hS dX12_dealt_111
        · rw [if_pos c_6] at hf
          refine lv_aload_n hx hb dX12_dealt_98 rfl (lv_at hl 0 rfl) ?_
          refine lv_iconst (v := (5 : Int32)) hx hb dX12_dealt_99 (by decide) ?_
          obtain ⟨r8, hc8, hf⟩ := kb_bind hf
          refine kb_ci (ws2 := (w_MO dA a (some (ba 0)) q1 g2 g3 (za 0) g5 g3 (la 0) (ha 0) (ca 0) g10 g11 g12 g13 g14 g15 g16 g17 g18 r8.2 ++ (w_Looks dA la z1 ++ (w_Who dA ha z2 ++ (w_Look dA ca z3 ++ (w_Bus dA ba bu ++ (w_W dA za z5))))))) (kb_rV (n := 1) (As := [.int (5 : Int32)]) (rest := []) hx hb hml hown hK (c_X12_refused l D dA H.size a (some (ba 0)) q1 g2 g3 (za 0) g5 g3 (la 0) (ha 0) (ca 0) g10 g11 g12 g13 g14 g15 g16 g17 g18 z0 (5 : Int32) r8.1 r8.2 hc8) ⟨ww_6_82, ww_6_79, ww_6_81, ws_46, ww_1_12, rfl, by decide, by decide⟩ rfl rfl (by decide +kernel) ⟨Nat.le_of_ble_eq_true rfl, Nat.le_of_ble_eq_true rfl⟩ hP hD hS hA hE [0] rfl (by decide) 0 rfl rfl rfl hl.1 rfl (Nat.le_of_ble_eq_true rfl) dX12_dealt_100 ⟨Nat.le_of_ble_eq_true rfl, Nat.le_of_ble_eq_true rfl⟩) hP hD hS hA [0] [1, 2, 3, 4, 5, 6, 7, 8, 9, 10, 11, 12, 13, 14, 15, 16, 17, 18, 19, 20] [20, 0, 1, 2, 3, 4, 5, 6, 7, 8, 9, 10, 11, 12, 13, 14, 15, 16, 17, 18, 19] rfl rfl (by decide) (by decide) rfl (by decide) (fun H locs hP hD hS => ?_)
          refine lv_goto (tgt := 111) hx hb dX12_dealt_103 (by decide) ?_
          exact RET _ _ _ _ _ _ H _ ls 111 hf hP hD hS dX12_dealt_111
      · rw [if_neg c_5] at hf
        refine lv_aload_n hx hb dX12_dealt_72 rfl (lv_at hl 0 rfl) ?_
        refine va_get (D := D) (ci := 12) (v := .ref (la 0)) (C := RX12) (T := TX12) (N := 35) hx hb hts kb_inX12 hown hK.1 hP 0 rfl rfl 20 (by decide) (hK.2.w ww_5_220 rfl _) (fun _ h9 => h9) rfl dX12_dealt_73 ?_
        refine lv_iload_n hx hb dX12_dealt_76 rfl (lv_at hl 2 rfl) ?_
        refine lv_aload_n hx hb dX12_dealt_77 rfl (lv_at hl 0 rfl) ?_
        refine va_get (D := D) (ci := 12) (v := .ref (ba 0)) (C := RX12) (T := TX12) (N := 35) hx hb hts kb_inX12 hown hK.1 hP 0 rfl rfl 3 (by decide) (hK.2.w ww_5_203 rfl _) (fun _ h9 => h9) rfl dX12_dealt_78 ?_
        refine va_getN (D := D) (ci := 11) (v := .ref (ba 6)) (C := RX11) (T := TX11) (N := 26) hx hb hts kb_inX11 hown hK.1 hP 4 rfl rfl 16 (by decide) (hK.2.nb ww_6_113 rfl rfl _) (fun _ h9 => h9) rfl dX12_dealt_81 ?_
        refine lv_iload_n hx hb dX12_dealt_84 rfl (lv_at hl 2 rfl) ?_
        obtain ⟨h_9, hf⟩ := kb_if hf
        refine va_iald (D := D) hx hb hK.1 hP 10 0 rfl rfl h_9 dX12_dealt_85 ?_
        obtain ⟨h_10, hf⟩ := kb_if hf
        refine va_iast (D := D) hx hb hK.1 hP hD hS 1 0 rfl rfl h_10 dX12_dealt_86 (fun H locs hP hD hS => ?_)
        have hP : va_P D vwCl (w_MO dA a (some (ba 0)) q1 g2 g3 (za 0) g5 g3 (la 0) (ha 0) (ca 0) g10 g11 g12 g13 g14 g15 g16 g17 g18 z0 ++ (w_Looks dA la (yLooks_set_r z1 (upd (yLooks_r z1) (v3).toNatClampNeg ((bu_looks bu) (v3).toNatClampNeg))) ++ (w_Who dA ha z2 ++ (w_Look dA ca z3 ++ (w_Bus dA ba bu ++ (w_W dA za z5)))))) H := hP
        have hD : va_D A (w_MO dA a (some (ba 0)) q1 g2 g3 (za 0) g5 g3 (la 0) (ha 0) (ca 0) g10 g11 g12 g13 g14 g15 g16 g17 g18 z0 ++ (w_Looks dA la (yLooks_set_r z1 (upd (yLooks_r z1) (v3).toNatClampNeg ((bu_looks bu) (v3).toNatClampNeg))) ++ (w_Who dA ha z2 ++ (w_Look dA ca z3 ++ (w_Bus dA ba bu ++ (w_W dA za z5)))))) := hD
        exact B_87 (f_X12_dealt_b61 bu n) ih _ _ _ _ _ _ _ _ _ _ hf hP hD hS (lv_sub hl [0, 1, 2] rfl)
  have B_51 : ∀ (v2 : Int32) (z0 : MOT) (z1 : LooksT) (z2 : WhoT) (z3 : LookT) (z5 : WT) (H : Heap) (locs : List Loc) (ls : Array Slot), f_X12_dealt_b51 bu v2 z0 z1 z2 z3 z5 = some (rv, u0, u1, u2, u3, u5) → va_P D vwCl (w_MO dA a (some (ba 0)) q1 g2 g3 (za 0) g5 (za 0) (la 0) (ha 0) (ca 0) g10 g11 g12 g13 g14 g15 g16 g17 g18 z0 ++ (w_Looks dA la z1 ++ (w_Who dA ha z2 ++ (w_Look dA ca z3 ++ (w_Bus dA ba bu ++ (w_W dA za z5)))))) H → va_D A (w_MO dA a (some (ba 0)) q1 g2 g3 (za 0) g5 (za 0) (la 0) (ha 0) (ca 0) g10 g11 g12 g13 g14 g15 g16 g17 g18 z0 ++ (w_Looks dA la z1 ++ (w_Who dA ha z2 ++ (w_Look dA ca z3 ++ (w_Bus dA ba bu ++ (w_W dA za z5)))))) → va_S A s.heap H locs → lv_has ls 4 [(0, .ref (a 0)), (2, .int v2)] → W p l e ({ frames := 14, cells := 0, slots := 0, locals := 319 } : Room) s m ([.ref (a 0), .int x0] : List Value).toArray below meth c H locs 0 0 Q (F0 m 51 ls []) := by
    intro v2 z0 z1 z2 z3 z5 H locs ls hf hP hD hS hl
    rw [f_X12_dealt_b51] at hf
    refine lv_aload_n hx hb dX12_dealt_51 rfl (lv_at hl 0 rfl) ?_
    refine lv_aload_n hx hb dX12_dealt_52 rfl (lv_at hl 0 rfl) ?_
    refine va_get (D := D) (ci := 12) (v := .ref g3) (C := RX12) (T := TX12) (N := 35) hx hb hts kb_inX12 hown hK.1 hP 0 rfl rfl 16 (by decide) (hK.2.w ww_5_216 rfl _) (fun _ h9 => h9) rfl dX12_dealt_53 ?_
    refine va_put (D := D) (ci := 12) (v := .ref g3) (ty := .array .int) (C := RX12) (T := TX12) (N := 35) hx hb hts kb_inX12 tyX12 tyX12_ok nmX12 hown hK.1 hP hD hS 0 rfl rfl 19 (by decide) (hK.2.w ww_5_219 rfl _) (fun _ h9 => h9) rfl (by decide +kernel) rfl rfl (Nat.le_of_ble_eq_true rfl) dX12_dealt_56 (fun H locs hP hD hS => ?_)
    have hP : va_P D vwCl (w_MO dA a (some (ba 0)) q1 g2 g3 (za 0) g5 g3 (la 0) (ha 0) (ca 0) g10 g11 g12 g13 g14 g15 g16 g17 g18 z0 ++ (w_Looks dA la z1 ++ (w_Who dA ha z2 ++ (w_Look dA ca z3 ++ (w_Bus dA ba bu ++ (w_W dA za z5)))))) H := hP
    have hD : va_D A (w_MO dA a (some (ba 0)) q1 g2 g3 (za 0) g5 g3 (la 0) (ha 0) (ca 0) g10 g11 g12 g13 g14 g15 g16 g17 g18 z0 ++ (w_Looks dA la z1 ++ (w_Who dA ha z2 ++ (w_Look dA ca z3 ++ (w_Bus dA ba bu ++ (w_W dA za z5)))))) := hD
    refine lv_iconst (v := (0 : Int32)) hx hb dX12_dealt_59 (by decide) ?_
    refine lv_istore_n (lv' := [(3, .int (0 : Int32)), (0, .ref (a 0)), (2, .int v2)]) hx hb dX12_dealt_60 rfl hl (by decide) rfl (fun ls hl => ?_)
    exact B_61 4096 _ _ _ _ _ _ _ _ _ _ hf hP hD hS (lv_sub hl [1, 2, 0] rfl)
  have B_5 : ∀ (v1 : Int32) (z0 : MOT) (z1 : LooksT) (z2 : WhoT) (z3 : LookT) (z5 : WT) (H : Heap) (locs : List Loc) (ls : Array Slot), f_X12_dealt_b5 bu v1 z0 z1 z2 z3 z5 = some (rv, u0, u1, u2, u3, u5) → va_P D vwCl (w_MO dA a (some (ba 0)) q1 g2 g3 (za 0) g5 g3 (la 0) (ha 0) (ca 0) g10 g11 g12 g13 g14 g15 g16 g17 g18 z0 ++ (w_Looks dA la z1 ++ (w_Who dA ha z2 ++ (w_Look dA ca z3 ++ (w_Bus dA ba bu ++ (w_W dA za z5)))))) H → va_D A (w_MO dA a (some (ba 0)) q1 g2 g3 (za 0) g5 g3 (la 0) (ha 0) (ca 0) g10 g11 g12 g13 g14 g15 g16 g17 g18 z0 ++ (w_Looks dA la z1 ++ (w_Who dA ha z2 ++ (w_Look dA ca z3 ++ (w_Bus dA ba bu ++ (w_W dA za z5)))))) → va_S A s.heap H locs → lv_has ls 4 [(0, .ref (a 0)), (1, .int v1)] → W p l e ({ frames := 14, cells := 0, slots := 0, locals := 319 } : Room) s m ([.ref (a 0), .int x0] : List Value).toArray below meth c H locs 0 0 Q (F0 m 5 ls []) := by
    intro v1 z0 z1 z2 z3 z5 H locs ls hf hP hD hS hl
    rw [f_X12_dealt_b5] at hf
    refine lv_aload_n hx hb dX12_dealt_5 rfl (lv_at hl 0 rfl) ?_
    refine lv_iload_n hx hb dX12_dealt_6 rfl (lv_at hl 1 rfl) ?_
    obtain ⟨r1, hc1, hf⟩ := kb_bind hf
    refine kb_ci (ws2 := (w_MO dA a (some (ba 0)) q1 g2 g3 (za 0) g5 g3 (la 0) (ha 0) (ca 0) g10 g11 g12 g13 g14 g15 g16 g17 g18 z0 ++ (w_Looks dA la z1 ++ (w_Who dA ha z2 ++ (w_Look dA ca z3 ++ (w_Bus dA ba bu ++ (w_W dA za z5))))))) (kb_rV (n := 1) (As := [.int v1]) (rest := []) hx hb hml hown hK (c_X12_isRider l D dA H.size a ba q1 g2 g3 (za 0) g5 g3 (la 0) (ha 0) (ca 0) g10 g11 g12 g13 g14 g15 g16 g17 g18 z0 bu v1 r1 hc1) ⟨ww_8_5, ww_8_2, ww_8_4, ws_95, ww_1_12, rfl, by decide, by decide⟩ rfl rfl (by decide +kernel) ⟨Nat.le_of_ble_eq_true rfl, Nat.le_of_ble_eq_true rfl⟩ hP hD hS hA hE [0, 4, 5, 6, 7, 8, 9, 10, 11, 12, 13, 14, 15, 16, 17, 18, 19] rfl (by decide) 0 rfl rfl rfl hl.1 rfl (Nat.le_of_ble_eq_true rfl) dX12_dealt_7 ⟨Nat.le_of_ble_eq_true rfl, Nat.le_of_ble_eq_true rfl⟩) hP hD hS hA [0, 4, 5, 6, 7, 8, 9, 10, 11, 12, 13, 14, 15, 16, 17, 18, 19] [1, 2, 3, 20] [4, 0, 1, 2, 5, 6, 7, 8, 9, 10, 11, 12, 13, 14, 15, 16, 17, 18, 19, 20, 3] rfl rfl (by decide) (by decide) rfl (by decide) (fun H locs hP hD hS => ?_)
    refine lv_if_ne (tgt := 19) hx hb dX12_dealt_10 (by decide) (fun c_2 => ?_) (fun c_2 => ?_)
    · rw [if_neg c_2] at hf
      refine lv_aload_n hx hb dX12_dealt_19 rfl (lv_at hl 0 rfl) ?_
      refine va_get (D := D) (ci := 12) (v := .ref (ba 0)) (C := RX12) (T := TX12) (N := 35) hx hb hts kb_inX12 hown hK.1 hP 0 rfl rfl 3 (by decide) (hK.2.w ww_5_203 rfl _) (fun _ h9 => h9) rfl dX12_dealt_20 ?_
      refine va_getN (D := D) (ci := 11) (v := .int (bu_riders bu)) (C := RX11) (T := TX11) (N := 26) hx hb hts kb_inX11 hown hK.1 hP 4 rfl rfl 7 (by decide) (hK.2.nb ww_6_96 rfl rfl _) (fun _ h9 => h9) rfl dX12_dealt_23 ?_
      refine lv_bipush (v := (6 : Int32)) hx hb dX12_dealt_26 (by decide) ?_
      refine lv_icmp_le (tgt := 37) hx hb dX12_dealt_28 (by decide) (fun c_3 => ?_) (fun c_3 => ?_)
      · rw [if_pos c_3] at hf
        refine lv_aload_n hx hb dX12_dealt_37 rfl (lv_at hl 0 rfl) ?_
        refine lv_aload_n hx hb dX12_dealt_38 rfl (lv_at hl 0 rfl) ?_
        refine va_get (D := D) (ci := 12) (v := .ref (za 0)) (C := RX12) (T := TX12) (N := 35) hx hb hts kb_inX12 hown hK.1 hP 0 rfl rfl 17 (by decide) (hK.2.w ww_5_217 rfl _) (fun _ h9 => h9) rfl dX12_dealt_39 ?_
        refine va_put (D := D) (ci := 12) (v := .ref (za 0)) (ty := .array .int) (C := RX12) (T := TX12) (N := 35) hx hb hts kb_inX12 tyX12 tyX12_ok nmX12 hown hK.1 hP hD hS 0 rfl rfl 19 (by decide) (hK.2.w ww_5_219 rfl _) (fun _ h9 => h9) rfl (by decide +kernel) rfl rfl (Nat.le_of_ble_eq_true rfl) dX12_dealt_42 (fun H locs hP hD hS => ?_)
        have hP : va_P D vwCl (w_MO dA a (some (ba 0)) q1 g2 g3 (za 0) g5 (za 0) (la 0) (ha 0) (ca 0) g10 g11 g12 g13 g14 g15 g16 g17 g18 z0 ++ (w_Looks dA la z1 ++ (w_Who dA ha z2 ++ (w_Look dA ca z3 ++ (w_Bus dA ba bu ++ (w_W dA za z5)))))) H := hP
        have hD : va_D A (w_MO dA a (some (ba 0)) q1 g2 g3 (za 0) g5 (za 0) (la 0) (ha 0) (ca 0) g10 g11 g12 g13 g14 g15 g16 g17 g18 z0 ++ (w_Looks dA la z1 ++ (w_Who dA ha z2 ++ (w_Look dA ca z3 ++ (w_Bus dA ba bu ++ (w_W dA za z5)))))) := hD
        refine lv_aload_n hx hb dX12_dealt_45 rfl (lv_at hl 0 rfl) ?_
        refine lv_iload_n hx hb dX12_dealt_46 rfl (lv_at hl 1 rfl) ?_
        obtain ⟨r4, hc4, hf⟩ := kb_bind hf
        refine kb_ci (ws2 := (w_MO dA a (some (ba 0)) q1 g2 g3 (za 0) g5 (za 0) (la 0) (ha 0) (ca 0) g10 g11 g12 g13 g14 g15 g16 g17 g18 z0 ++ (w_Looks dA la r4.2.2.1 ++ (w_Who dA ha r4.2.2.2.1 ++ (w_Look dA ca r4.2.2.2.2 ++ (w_Bus dA ba bu ++ (w_W dA za r4.2.1))))))) (kb_rV (n := 1) (As := [.int v1]) (rest := []) hx hb hml hown hK (c_X12_dealtOf l D dA H.size a za la ha ca ba q1 g2 g3 (za 0) g5 g10 g11 g12 g13 g14 g15 g16 g17 g18 z0 z5 z1 z2 z3 bu v1 r4.1 r4.2.1 r4.2.2.1 r4.2.2.2.1 r4.2.2.2.2 hc4) ⟨ww_8_162, ww_8_159, ww_8_161, ws_113, ww_1_12, rfl, by decide, by decide⟩ rfl rfl (by decide +kernel) ⟨Nat.le_of_ble_eq_true rfl, Nat.le_of_ble_eq_true rfl⟩ hP hD hS hA hE [0, 20, 1, 2, 3, 4, 5, 6, 7, 8, 9, 10, 11, 12, 13, 14, 15, 16, 17, 18, 19] rfl (by decide) 0 rfl rfl rfl hl.1 rfl (Nat.le_of_ble_eq_true rfl) dX12_dealt_47 ⟨Nat.le_of_ble_eq_true rfl, Nat.le_of_ble_eq_true rfl⟩) hP hD hS hA [0, 20, 1, 2, 3, 4, 5, 6, 7, 8, 9, 10, 11, 12, 13, 14, 15, 16, 17, 18, 19] [] [0, 2, 3, 4, 5, 6, 7, 8, 9, 10, 11, 12, 13, 14, 15, 16, 17, 18, 19, 20, 1] rfl rfl (by decide) (by decide) rfl (by decide) (fun H locs hP hD hS => ?_)
        refine lv_istore_n (lv' := [(2, .int r4.1), (0, .ref (a 0)), (1, .int v1)]) hx hb dX12_dealt_50 rfl hl (by decide) rfl (fun ls hl => ?_)
        exact B_51 _ _ _ _ _ _ _ _ _ hf hP hD hS (lv_sub hl [1, 0] rfl)
      · rw [if_neg c_3] at hf
        refine lv_aload_n hx hb dX12_dealt_31 rfl (lv_at hl 0 rfl) ?_
        refine lv_iconst (v := (3 : Int32)) hx hb dX12_dealt_32 (by decide) ?_
        obtain ⟨r11, hc11, hf⟩ := kb_bind hf
        refine kb_ci (ws2 := (w_MO dA a (some (ba 0)) q1 g2 g3 (za 0) g5 g3 (la 0) (ha 0) (ca 0) g10 g11 g12 g13 g14 g15 g16 g17 g18 r11.2 ++ (w_Looks dA la z1 ++ (w_Who dA ha z2 ++ (w_Look dA ca z3 ++ (w_Bus dA ba bu ++ (w_W dA za z5))))))) (kb_rV (n := 1) (As := [.int (3 : Int32)]) (rest := []) hx hb hml hown hK (c_X12_refused l D dA H.size a (some (ba 0)) q1 g2 g3 (za 0) g5 g3 (la 0) (ha 0) (ca 0) g10 g11 g12 g13 g14 g15 g16 g17 g18 z0 (3 : Int32) r11.1 r11.2 hc11) ⟨ww_6_82, ww_6_79, ww_6_81, ws_46, ww_1_12, rfl, by decide, by decide⟩ rfl rfl (by decide +kernel) ⟨Nat.le_of_ble_eq_true rfl, Nat.le_of_ble_eq_true rfl⟩ hP hD hS hA hE [0] rfl (by decide) 0 rfl rfl rfl hl.1 rfl (Nat.le_of_ble_eq_true rfl) dX12_dealt_33 ⟨Nat.le_of_ble_eq_true rfl, Nat.le_of_ble_eq_true rfl⟩) hP hD hS hA [0] [1, 2, 3, 4, 5, 6, 7, 8, 9, 10, 11, 12, 13, 14, 15, 16, 17, 18, 19, 20] [20, 0, 1, 2, 3, 4, 5, 6, 7, 8, 9, 10, 11, 12, 13, 14, 15, 16, 17, 18, 19] rfl rfl (by decide) (by decide) rfl (by decide) (fun H locs hP hD hS => ?_)
        exact RET _ _ _ _ _ _ H _ ls 36 hf hP hD hS dX12_dealt_36
    · rw [if_pos c_2] at hf
      refine lv_aload_n hx hb dX12_dealt_13 rfl (lv_at hl 0 rfl) ?_
      refine lv_iconst (v := (1 : Int32)) hx hb dX12_dealt_14 (by decide) ?_
      obtain ⟨r12, hc12, hf⟩ := kb_bind hf
      refine kb_ci (ws2 := (w_MO dA a (some (ba 0)) q1 g2 g3 (za 0) g5 g3 (la 0) (ha 0) (ca 0) g10 g11 g12 g13 g14 g15 g16 g17 g18 r12.2 ++ (w_Looks dA la z1 ++ (w_Who dA ha z2 ++ (w_Look dA ca z3 ++ (w_Bus dA ba bu ++ (w_W dA za z5))))))) (kb_rV (n := 1) (As := [.int (1 : Int32)]) (rest := []) hx hb hml hown hK (c_X12_refused l D dA H.size a (some (ba 0)) q1 g2 g3 (za 0) g5 g3 (la 0) (ha 0) (ca 0) g10 g11 g12 g13 g14 g15 g16 g17 g18 z0 (1 : Int32) r12.1 r12.2 hc12) ⟨ww_6_82, ww_6_79, ww_6_81, ws_46, ww_1_12, rfl, by decide, by decide⟩ rfl rfl (by decide +kernel) ⟨Nat.le_of_ble_eq_true rfl, Nat.le_of_ble_eq_true rfl⟩ hP hD hS hA hE [0] rfl (by decide) 0 rfl rfl rfl hl.1 rfl (Nat.le_of_ble_eq_true rfl) dX12_dealt_15 ⟨Nat.le_of_ble_eq_true rfl, Nat.le_of_ble_eq_true rfl⟩) hP hD hS hA [0] [1, 2, 3, 4, 5, 6, 7, 8, 9, 10, 11, 12, 13, 14, 15, 16, 17, 18, 19, 20] [20, 0, 1, 2, 3, 4, 5, 6, 7, 8, 9, 10, 11, 12, 13, 14, 15, 16, 17, 18, 19] rfl rfl (by decide) (by decide) rfl (by decide) (fun H locs hP hD hS => ?_)
      exact RET _ _ _ _ _ _ H _ ls 18 hf hP hD hS dX12_dealt_18
  have E0 : ∀ (H : Heap) (locs : List Loc), va_P D vwCl (w_MO dA a (some (ba 0)) q1 g2 g3 (za 0) g5 g3 (la 0) (ha 0) (ca 0) g10 g11 g12 g13 g14 g15 g16 g17 g18 mo ++ (w_Looks dA la y_looks ++ (w_Who dA ha y_who ++ (w_Look dA ca y_look ++ (w_Bus dA ba bu ++ (w_W dA za y_other)))))) H → va_D A (w_MO dA a (some (ba 0)) q1 g2 g3 (za 0) g5 g3 (la 0) (ha 0) (ca 0) g10 g11 g12 g13 g14 g15 g16 g17 g18 mo ++ (w_Looks dA la y_looks ++ (w_Who dA ha y_who ++ (w_Look dA ca y_look ++ (w_Bus dA ba bu ++ (w_W dA za y_other)))))) → va_S A s.heap H locs → W p l e ({ frames := 14, cells := 0, slots := 0, locals := 319 } : Room) s m ([.ref (a 0), .int x0] : List Value).toArray below meth c H locs 0 0 Q (F0 m 0 ls []) := by
    intro H locs hP hD hS
    rw [f_X12_dealt] at hf
    refine lv_aload_n hx hb dX12_dealt_0 rfl (lv_at hl 0 rfl) ?_
    refine lv_iconst (v := (0 : Int32)) hx hb dX12_dealt_1 (by decide) ?_
    refine va_put (D := D) (ci := 12) (v := .int (0 : Int32)) (ty := .int) (C := RX12) (T := TX12) (N := 35) hx hb hts kb_inX12 tyX12 tyX12_ok nmX12 hown hK.1 hP hD hS 0 rfl rfl 0 (by decide) (hK.2.w ww_5_200 rfl _) (fun _ h9 => h9) rfl (by decide +kernel) rfl rfl (Nat.le_of_ble_eq_true rfl) dX12_dealt_2 (fun H locs hP hD hS => ?_)
    have hP : va_P D vwCl (w_MO dA a (some (ba 0)) q1 g2 g3 (za 0) g5 g3 (la 0) (ha 0) (ca 0) g10 g11 g12 g13 g14 g15 g16 g17 g18 (mo_set_thrown mo (0 : Int32)) ++ (w_Looks dA la y_looks ++ (w_Who dA ha y_who ++ (w_Look dA ca y_look ++ (w_Bus dA ba bu ++ (w_W dA za y_other)))))) H := hP
    have hD : va_D A (w_MO dA a (some (ba 0)) q1 g2 g3 (za 0) g5 g3 (la 0) (ha 0) (ca 0) g10 g11 g12 g13 g14 g15 g16 g17 g18 (mo_set_thrown mo (0 : Int32)) ++ (w_Looks dA la y_looks ++ (w_Who dA ha y_who ++ (w_Look dA ca y_look ++ (w_Bus dA ba bu ++ (w_W dA za y_other)))))) := hD
    exact B_5 _ _ _ _ _ _ _ _ _ hf hP hD hS (lv_sub hl [0, 1] rfl)
  exact E0 _ _ hP hD hS

noncomputable def f_X12_deals_b5 (bu : BusT) (z0 : MOT) : Option (Int32 × MOT) := (if (bu_riders bu) ≤ (6 : Int32) then (f_X12_factorial z0 bu).bind fun r2 => (f_X12_done z0 r2).bind fun r3 => some (r3.1, r3.2) else (f_X12_refused z0 (3 : Int32)).bind fun r4 => some (r4.1, r4.2))
noncomputable def f_X12_deals (mo : MOT) (bu : BusT) : Option (Int32 × MOT) := f_X12_deals_b5 bu (mo_set_thrown mo (0 : Int32))
set_option maxHeartbeats 4000000 in
set_option maxRecDepth 100000 in
theorem c_X12_deals (l : Launch) (D : va_G) (dA : Nat → ClassId) (sz : Nat) (a : Nat → Nat) (ba : Nat → Nat) (q1 : Option Nat) (g2 : Nat) (g3 : Nat) (g4 : Nat) (g5 : Nat) (g6 : Nat) (g7 : Nat) (g8 : Nat) (g9 : Nat) (g10 : Nat) (g11 : Nat) (g12 : Nat) (g13 : Nat) (g14 : Nat) (g15 : Nat) (g16 : Nat) (g17 : Nat) (g18 : Nat) (mo : MOT) (bu : BusT) (rv : Int32) (u0 : MOT) (hf : f_X12_deals mo bu = some (rv, u0)) : kb_Mi l yX12_deals cX12_deals 1 (some .int) ({ frames := 1, cells := 0, slots := 0, locals := 22 } : Room) D dA [.ref (a 0)] sz (w_MO dA a (some (ba 0)) q1 g2 g3 g4 g5 g6 g7 g8 g9 g10 g11 g12 g13 g14 g15 g16 g17 g18 mo ++ (w_Bus dA ba bu)) 0 0 rv (w_MO dA a (some (ba 0)) q1 g2 g3 g4 g5 g6 g7 g8 g9 g10 g11 g12 g13 g14 g15 g16 g17 g18 u0 ++ (w_Bus dA ba bu)) := by
  refine Met.ofW (cc := cX12_deals) (maxL := 1) (ret := (some .int)) (by decide) rfl ?_
  intro p e s m args below meth c s₁ B hml hv
  obtain ⟨rfl, hsz, hP, hK, hD0, hE⟩ := hv
  have hx := B.exec
  have hb := B.bytes
  have hr := B.returns
  have hown : s.vm.findClass RX12 = some m.cls := findClass_of_methodNamed B.named
  have hlocks := B.notSynchronized
  have hts : ∀ w ∈ kb_gw, w.before ([.ref (a 0)] : List Value).toArray s = true := fun w hw => hK.2.1 w hw _
  subst hsz
  have hD := hD0.self (sz := s.heap.size)
  generalize hAe : va_A (w_MO dA a (some (ba 0)) q1 g2 g3 g4 g5 g6 g7 g8 g9 g10 g11 g12 g13 g14 g15 g16 g17 g18 mo ++ (w_Bus dA ba bu)) s.heap.size = A at hD hE ⊢
  have hA : ∀ q : Nat, s.heap.size ≤ q → A q := fun q h => by rw [← hAe]; exact Or.inr h
  have hS : va_S A s.heap s.heap [] := va_S.rf
  have hl := lv_entry ([.ref (a 0)]) (n := 1) (Nat.le_of_ble_eq_true rfl)
  rw [lg_entry_eq]
  generalize (lg_sl ([.ref (a 0)]) ++ List.replicate (1 - (lg_sl ([.ref (a 0)])).length) Slot.unset).toArray = ls at hl ⊢
  have hl : lv_has ls 1 [(0, .ref (a 0))] := hl
  generalize hQ : MQ below (va_Qi (fun r (_ : Unit) => r = rv) (kb_B D A (w_MO dA a (some (ba 0)) q1 g2 g3 g4 g5 g6 g7 g8 g9 g10 g11 g12 g13 g14 g15 g16 g17 g18 u0 ++ (w_Bus dA ba bu))) A) ([.ref (a 0)] : List Value).toArray s 0 0 A = Q
  show W p l e ({ frames := 1, cells := 0, slots := 0, locals := 22 } : Room) s m ([.ref (a 0)] : List Value).toArray below meth c s.heap [] 0 0 Q (F0 m 0 ls [])
  have RET : ∀ (r2 : Int32) (w0 : MOT) (H : Heap) (locs : List Loc) (ls : Array Slot) (pc : Nat), some (r2, w0) = some (rv, u0) → va_P D vwCl (w_MO dA a (some (ba 0)) q1 g2 g3 g4 g5 g6 g7 g8 g9 g10 g11 g12 g13 g14 g15 g16 g17 g18 w0 ++ (w_Bus dA ba bu)) H → va_D A (w_MO dA a (some (ba 0)) q1 g2 g3 g4 g5 g6 g7 g8 g9 g10 g11 g12 g13 g14 g15 g16 g17 g18 w0 ++ (w_Bus dA ba bu)) → va_S A s.heap H locs → decode cX12_deals pc = .ok (.ireturn, 1) → W p l e ({ frames := 1, cells := 0, slots := 0, locals := 22 } : Room) s m ([.ref (a 0)] : List Value).toArray below meth c H locs 0 0 Q (F0 m pc ls [.int r2]) := by
    intro r2 w0 H locs ls pc hq hP hD hS hd
    cases hq
    rw [← hQ]
    exact W.iret hx hb hr (fun t ht hW => ⟨⟨_, (), rfl, rfl, by rw [ht]; exact hP, hD⟩, hS.F ht⟩) hS.2.2 hd
  have B_5 : ∀ (z0 : MOT) (H : Heap) (locs : List Loc) (ls : Array Slot), f_X12_deals_b5 bu z0 = some (rv, u0) → va_P D vwCl (w_MO dA a (some (ba 0)) q1 g2 g3 g4 g5 g6 g7 g8 g9 g10 g11 g12 g13 g14 g15 g16 g17 g18 z0 ++ (w_Bus dA ba bu)) H → va_D A (w_MO dA a (some (ba 0)) q1 g2 g3 g4 g5 g6 g7 g8 g9 g10 g11 g12 g13 g14 g15 g16 g17 g18 z0 ++ (w_Bus dA ba bu)) → va_S A s.heap H locs → lv_has ls 1 [(0, .ref (a 0))] → W p l e ({ frames := 1, cells := 0, slots := 0, locals := 22 } : Room) s m ([.ref (a 0)] : List Value).toArray below meth c H locs 0 0 Q (F0 m 5 ls []) := by
    intro z0 H locs ls hf hP hD hS hl
    rw [f_X12_deals_b5] at hf
    refine lv_aload_n hx hb dX12_deals_5 rfl (lv_at hl 0 rfl) ?_
    refine va_get (D := D) (ci := 12) (v := .ref (ba 0)) (C := RX12) (T := TX12) (N := 35) hx hb hts kb_inX12 hown hK.1 hP 0 rfl rfl 3 (by decide) (hK.2.w ww_5_203 rfl _) (fun _ h9 => h9) rfl dX12_deals_6 ?_
    refine lv_ifnonnull (tgt := 18) hx hb dX12_deals_9 (by decide) ?_
    refine lv_aload_n hx hb dX12_deals_18 rfl (lv_at hl 0 rfl) ?_
    refine va_get (D := D) (ci := 12) (v := .ref (ba 0)) (C := RX12) (T := TX12) (N := 35) hx hb hts kb_inX12 hown hK.1 hP 0 rfl rfl 3 (by decide) (hK.2.w ww_5_203 rfl _) (fun _ h9 => h9) rfl dX12_deals_19 ?_
    refine va_getN (D := D) (ci := 11) (v := .int (bu_riders bu)) (C := RX11) (T := TX11) (N := 26) hx hb hts kb_inX11 hown hK.1 hP 1 rfl rfl 7 (by decide) (hK.2.nb ww_6_96 rfl rfl _) (fun _ h9 => h9) rfl dX12_deals_22 ?_
    refine lv_bipush (v := (6 : Int32)) hx hb dX12_deals_25 (by decide) ?_
    refine lv_icmp_le (tgt := 38) hx hb dX12_deals_27 (by decide) (fun c_1 => ?_) (fun c_1 => ?_)
    · rw [if_pos c_1] at hf
      refine lv_aload_n hx hb dX12_deals_38 rfl (lv_at hl 0 rfl) ?_
      refine lv_aload_n hx hb dX12_deals_39 rfl (lv_at hl 0 rfl) ?_
      obtain ⟨r2, hc2, hf⟩ := kb_bind hf
      refine kb_ci (ws2 := (w_MO dA a (some (ba 0)) q1 g2 g3 g4 g5 g6 g7 g8 g9 g10 g11 g12 g13 g14 g15 g16 g17 g18 z0 ++ (w_Bus dA ba bu))) (kb_rV (n := 0) (As := []) (rest := [.ref (a 0)]) hx hb hml hown hK (c_X12_factorial l D dA H.size a ba q1 g2 g3 g4 g5 g6 g7 g8 g9 g10 g11 g12 g13 g14 g15 g16 g17 g18 z0 bu r2 hc2) ⟨ww_8_170, ww_8_167, ww_8_169, ws_115, ww_1_12, rfl, by decide, by decide⟩ rfl rfl (by decide +kernel) ⟨Nat.le_of_ble_eq_true rfl, Nat.le_of_ble_eq_true rfl⟩ hP hD hS hA hE [0, 1, 2, 3, 4, 5, 6, 7, 8, 9, 10, 11, 12, 13, 14, 15, 16] rfl (by decide) 0 rfl rfl rfl hl.1 rfl (Nat.le_of_ble_eq_true rfl) dX12_deals_40 ⟨Nat.le_of_ble_eq_true rfl, Nat.le_of_ble_eq_true rfl⟩) hP hD hS hA [0, 1, 2, 3, 4, 5, 6, 7, 8, 9, 10, 11, 12, 13, 14, 15, 16] [] [0, 1, 2, 3, 4, 5, 6, 7, 8, 9, 10, 11, 12, 13, 14, 15, 16] rfl rfl (by decide) (by decide) rfl (by decide) (fun H locs hP hD hS => ?_)
      obtain ⟨r3, hc3, hf⟩ := kb_bind hf
      refine kb_ci (ws2 := (w_MO dA a (some (ba 0)) q1 g2 g3 g4 g5 g6 g7 g8 g9 g10 g11 g12 g13 g14 g15 g16 g17 g18 r3.2 ++ (w_Bus dA ba bu))) (kb_rV (n := 1) (As := [.int r2]) (rest := []) hx hb hml hown hK (c_X12_done l D dA H.size a (some (ba 0)) q1 g2 g3 g4 g5 g6 g7 g8 g9 g10 g11 g12 g13 g14 g15 g16 g17 g18 z0 r2 r3.1 r3.2 hc3) ⟨ww_7_100, ww_7_97, ww_7_99, ws_71, ww_1_12, rfl, by decide, by decide⟩ rfl rfl (by decide +kernel) ⟨Nat.le_of_ble_eq_true rfl, Nat.le_of_ble_eq_true rfl⟩ hP hD hS hA hE [0] rfl (by decide) 0 rfl rfl rfl hl.1 rfl (Nat.le_of_ble_eq_true rfl) dX12_deals_43 ⟨Nat.le_of_ble_eq_true rfl, Nat.le_of_ble_eq_true rfl⟩) hP hD hS hA [0] [1, 2, 3, 4, 5, 6, 7, 8, 9, 10, 11, 12, 13, 14, 15, 16] [16, 0, 1, 2, 3, 4, 5, 6, 7, 8, 9, 10, 11, 12, 13, 14, 15] rfl rfl (by decide) (by decide) rfl (by decide) (fun H locs hP hD hS => ?_)
      exact RET _ _ H _ ls 46 hf hP hD hS dX12_deals_46
    · rw [if_neg c_1] at hf
      refine lv_aload_n hx hb dX12_deals_30 rfl (lv_at hl 0 rfl) ?_
      refine lv_iconst (v := (3 : Int32)) hx hb dX12_deals_31 (by decide) ?_
      obtain ⟨r4, hc4, hf⟩ := kb_bind hf
      refine kb_ci (ws2 := (w_MO dA a (some (ba 0)) q1 g2 g3 g4 g5 g6 g7 g8 g9 g10 g11 g12 g13 g14 g15 g16 g17 g18 r4.2 ++ (w_Bus dA ba bu))) (kb_rV (n := 1) (As := [.int (3 : Int32)]) (rest := []) hx hb hml hown hK (c_X12_refused l D dA H.size a (some (ba 0)) q1 g2 g3 g4 g5 g6 g7 g8 g9 g10 g11 g12 g13 g14 g15 g16 g17 g18 z0 (3 : Int32) r4.1 r4.2 hc4) ⟨ww_6_82, ww_6_79, ww_6_81, ws_46, ww_1_12, rfl, by decide, by decide⟩ rfl rfl (by decide +kernel) ⟨Nat.le_of_ble_eq_true rfl, Nat.le_of_ble_eq_true rfl⟩ hP hD hS hA hE [0] rfl (by decide) 0 rfl rfl rfl hl.1 rfl (Nat.le_of_ble_eq_true rfl) dX12_deals_32 ⟨Nat.le_of_ble_eq_true rfl, Nat.le_of_ble_eq_true rfl⟩) hP hD hS hA [0] [1, 2, 3, 4, 5, 6, 7, 8, 9, 10, 11, 12, 13, 14, 15, 16] [16, 0, 1, 2, 3, 4, 5, 6, 7, 8, 9, 10, 11, 12, 13, 14, 15] rfl rfl (by decide) (by decide) rfl (by decide) (fun H locs hP hD hS => ?_)
      refine lv_goto (tgt := 46) hx hb dX12_deals_35 (by decide) ?_
      exact RET _ _ H _ ls 46 hf hP hD hS dX12_deals_46
  have E0 : ∀ (H : Heap) (locs : List Loc), va_P D vwCl (w_MO dA a (some (ba 0)) q1 g2 g3 g4 g5 g6 g7 g8 g9 g10 g11 g12 g13 g14 g15 g16 g17 g18 mo ++ (w_Bus dA ba bu)) H → va_D A (w_MO dA a (some (ba 0)) q1 g2 g3 g4 g5 g6 g7 g8 g9 g10 g11 g12 g13 g14 g15 g16 g17 g18 mo ++ (w_Bus dA ba bu)) → va_S A s.heap H locs → W p l e ({ frames := 1, cells := 0, slots := 0, locals := 22 } : Room) s m ([.ref (a 0)] : List Value).toArray below meth c H locs 0 0 Q (F0 m 0 ls []) := by
    intro H locs hP hD hS
    rw [f_X12_deals] at hf
    refine lv_aload_n hx hb dX12_deals_0 rfl (lv_at hl 0 rfl) ?_
    refine lv_iconst (v := (0 : Int32)) hx hb dX12_deals_1 (by decide) ?_
    refine va_put (D := D) (ci := 12) (v := .int (0 : Int32)) (ty := .int) (C := RX12) (T := TX12) (N := 35) hx hb hts kb_inX12 tyX12 tyX12_ok nmX12 hown hK.1 hP hD hS 0 rfl rfl 0 (by decide) (hK.2.w ww_5_200 rfl _) (fun _ h9 => h9) rfl (by decide +kernel) rfl rfl (Nat.le_of_ble_eq_true rfl) dX12_deals_2 (fun H locs hP hD hS => ?_)
    have hP : va_P D vwCl (w_MO dA a (some (ba 0)) q1 g2 g3 g4 g5 g6 g7 g8 g9 g10 g11 g12 g13 g14 g15 g16 g17 g18 (mo_set_thrown mo (0 : Int32)) ++ (w_Bus dA ba bu)) H := hP
    have hD : va_D A (w_MO dA a (some (ba 0)) q1 g2 g3 g4 g5 g6 g7 g8 g9 g10 g11 g12 g13 g14 g15 g16 g17 g18 (mo_set_thrown mo (0 : Int32)) ++ (w_Bus dA ba bu)) := hD
    exact B_5 _ _ _ _ hf hP hD hS (lv_sub hl [0] rfl)
  exact E0 _ _ hP hD hS
