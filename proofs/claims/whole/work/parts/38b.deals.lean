noncomputable def f_X1_tally_b66 (rd : RideT) (k2 : Int32 → Int32 → Int32 → DealsT → Option (DealsT)) (v1 : Int32) (v2 : Int32) (v3 : Int32) (z0 : DealsT) : Option (DealsT) := k2 v1 v2 (v3 + (1 : Int32)) z0
noncomputable def f_X1_tally_b45 (rd : RideT) (k2 : Int32 → Int32 → Int32 → DealsT → Option (DealsT)) (v1 : Int32) (v2 : Int32) (v3 : Int32) (v4 : Int32) (z0 : DealsT) : Option (DealsT) := if kb_in? v3 8 then (if v4 < ((de_told z0) (v3).toNatClampNeg) then k2 v1 v2 (v3 + (1 : Int32)) z0 else if kb_in? v3 8 then if kb_in? v3 8 then f_X1_tally_b66 rd k2 v1 v2 v3 (de_set_asMuch z0 (upd (de_asMuch z0) (v3).toNatClampNeg (((de_asMuch z0) (v3).toNatClampNeg) + (1 : Int32)))) else none else none) else none
noncomputable def f_X1_tally_b31 (rd : RideT) (k2 : Int32 → Int32 → Int32 → DealsT → Option (DealsT)) (v1 : Int32) (v2 : Int32) (v3 : Int32) (s0 : Int32) (z0 : DealsT) : Option (DealsT) := (if v2 = 0 then f_X1_tally_b45 rd k2 v1 v2 v3 s0 z0 else if kb_in? v3 8 then f_X1_tally_b45 rd k2 v1 v2 v3 s0 (de_set_told z0 (upd (de_told z0) (v3).toNatClampNeg s0)) else none)
noncomputable def f_X1_tally_b2 (rd : RideT) : Nat → Int32 → Int32 → Int32 → DealsT → Option (DealsT)
  | 0, _, _, _, _ => none
  | n + 1, v1, v2, v3, z0 => (if v1 ≤ v3 then some (z0) else if kb_in? v3 8 then (if ((rd_turn rd) (v3).toNatClampNeg) = 0 then f_X1_tally_b31 rd (f_X1_tally_b2 rd n) v1 v2 v3 (-1 : Int32) z0 else (f_X6_shunning rd v3).bind fun r4 => f_X1_tally_b31 rd (f_X1_tally_b2 rd n) v1 v2 v3 r4 z0) else none)
noncomputable def f_X1_tally (de : DealsT) (rd : RideT) (x0 : Int32) (x1 : Int32) : Option (DealsT) := f_X1_tally_b2 rd 4096 x0 x1 (0 : Int32) de
set_option maxHeartbeats 4000000 in
set_option maxRecDepth 100000 in
theorem c_X1_tally (l : Launch) (D : va_G) (dA : Nat → ClassId) (sz : Nat) (da : Nat → Nat) (a : Nat → Nat) (h0 : Nat) (h1 : Nat) (de : DealsT) (rd : RideT) (x0 : Int32) (x1 : Int32) (u0 : DealsT) (hf : f_X1_tally de rd x0 x1 = some (u0)) : kb_Mv l yX1_tally cX1_tally 5 none ({ frames := 2, cells := 0, slots := 0, locals := 42 } : Room) D dA [.ref (da 0), .int x0, .int x1] sz (w_Deals dA da (a 0) de ++ (w_Ride dA a h0 h1 rd)) 0 0 (w_Deals dA da (a 0) u0 ++ (w_Ride dA a h0 h1 rd)) := by
  refine Met.ofW (cc := cX1_tally) (maxL := 5) (ret := none) (by decide) rfl ?_
  intro p e s m args below meth c s₁ B hml hv
  obtain ⟨rfl, hsz, hP, hK, hD0, hE⟩ := hv
  have hx := B.exec
  have hb := B.bytes
  have hr := B.returns
  have hown : s.vm.findClass RX1 = some m.cls := findClass_of_methodNamed B.named
  have hlocks := B.notSynchronized
  have hts : ∀ w ∈ kb_gw, w.before ([.ref (da 0), .int x0, .int x1] : List Value).toArray s = true := fun w hw => hK.2.1 w hw _
  subst hsz
  have hD := hD0.self (sz := s.heap.size)
  generalize hAe : va_A (w_Deals dA da (a 0) de ++ (w_Ride dA a h0 h1 rd)) s.heap.size = A at hD hE ⊢
  have hA : ∀ q : Nat, s.heap.size ≤ q → A q := fun q h => by rw [← hAe]; exact Or.inr h
  have hS : va_S A s.heap s.heap [] := va_S.rf
  have hl := lv_entry ([.ref (da 0), .int x0, .int x1]) (n := 5) (Nat.le_of_ble_eq_true rfl)
  rw [lg_entry_eq]
  generalize (lg_sl ([.ref (da 0), .int x0, .int x1]) ++ List.replicate (5 - (lg_sl ([.ref (da 0), .int x0, .int x1])).length) Slot.unset).toArray = ls at hl ⊢
  have hl : lv_has ls 5 [(0, .ref (da 0)), (1, .int x0), (2, .int x1)] := hl
  generalize hQ : MQ below (va_Qv (fun (_ : Unit) => True) (kb_B D A (w_Deals dA da (a 0) u0 ++ (w_Ride dA a h0 h1 rd))) A) ([.ref (da 0), .int x0, .int x1] : List Value).toArray s 0 0 A = Q
  show W p l e ({ frames := 2, cells := 0, slots := 0, locals := 42 } : Room) s m ([.ref (da 0), .int x0, .int x1] : List Value).toArray below meth c s.heap [] 0 0 Q (F0 m 0 ls [])
  have RET : ∀ (w0 : DealsT) (H : Heap) (locs : List Loc) (ls : Array Slot) (pc : Nat), some (w0) = some (u0) → va_P D vwCl (w_Deals dA da (a 0) w0 ++ (w_Ride dA a h0 h1 rd)) H → va_D A (w_Deals dA da (a 0) w0 ++ (w_Ride dA a h0 h1 rd)) → va_S A s.heap H locs → decode cX1_tally pc = .ok (.return_, 1) → W p l e ({ frames := 2, cells := 0, slots := 0, locals := 42 } : Room) s m ([.ref (da 0), .int x0, .int x1] : List Value).toArray below meth c H locs 0 0 Q (F0 m pc ls []) := by
    intro w0 H locs ls pc hq hP hD hS hd
    cases hq
    rw [← hQ]
    exact W.vret hx hb hr (fun t ht hW => ⟨⟨(), rfl, trivial, by rw [ht]; exact hP, hD⟩, hS.F ht⟩) hS.2.2 hd
  have B_66 : ∀ (k2 : Int32 → Int32 → Int32 → DealsT → Option (DealsT)) (hk2 : ∀ (v1 : Int32) (v2 : Int32) (v3 : Int32) (z0 : DealsT) (H : Heap) (locs : List Loc) (ls : Array Slot), k2 v1 v2 v3 z0 = some (u0) → va_P D vwCl (w_Deals dA da (a 0) z0 ++ (w_Ride dA a h0 h1 rd)) H → va_D A (w_Deals dA da (a 0) z0 ++ (w_Ride dA a h0 h1 rd)) → va_S A s.heap H locs → lv_has ls 5 [(0, .ref (da 0)), (1, .int v1), (2, .int v2), (3, .int v3)] → W p l e ({ frames := 2, cells := 0, slots := 0, locals := 42 } : Room) s m ([.ref (da 0), .int x0, .int x1] : List Value).toArray below meth c H locs 0 0 Q (F0 m 2 ls [])) (v1 : Int32) (v2 : Int32) (v3 : Int32) (z0 : DealsT) (H : Heap) (locs : List Loc) (ls : Array Slot), f_X1_tally_b66 rd k2 v1 v2 v3 z0 = some (u0) → va_P D vwCl (w_Deals dA da (a 0) z0 ++ (w_Ride dA a h0 h1 rd)) H → va_D A (w_Deals dA da (a 0) z0 ++ (w_Ride dA a h0 h1 rd)) → va_S A s.heap H locs → lv_has ls 5 [(0, .ref (da 0)), (1, .int v1), (2, .int v2), (3, .int v3)] → W p l e ({ frames := 2, cells := 0, slots := 0, locals := 42 } : Room) s m ([.ref (da 0), .int x0, .int x1] : List Value).toArray below meth c H locs 0 0 Q (F0 m 66 ls []) := by
    intro k2 hk2 v1 v2 v3 z0 H locs ls hf hP hD hS hl
    rw [f_X1_tally_b66] at hf
    refine lv_iinc (v := (v3 + (1 : Int32))) (lv' := [(3, .int (v3 + (1 : Int32))), (0, .ref (da 0)), (1, .int v1), (2, .int v2)]) hx hb dX1_tally_66 hl (k := 3) rfl (by rfl) (by decide) rfl (fun ls hl => ?_)
    refine lv_goto (tgt := 2) hx hb dX1_tally_69 (by decide) ?_
    exact hk2 _ _ _ _ _ _ _ hf hP hD hS (lv_sub hl [1, 2, 3, 0] rfl)
  have B_45 : ∀ (k2 : Int32 → Int32 → Int32 → DealsT → Option (DealsT)) (hk2 : ∀ (v1 : Int32) (v2 : Int32) (v3 : Int32) (z0 : DealsT) (H : Heap) (locs : List Loc) (ls : Array Slot), k2 v1 v2 v3 z0 = some (u0) → va_P D vwCl (w_Deals dA da (a 0) z0 ++ (w_Ride dA a h0 h1 rd)) H → va_D A (w_Deals dA da (a 0) z0 ++ (w_Ride dA a h0 h1 rd)) → va_S A s.heap H locs → lv_has ls 5 [(0, .ref (da 0)), (1, .int v1), (2, .int v2), (3, .int v3)] → W p l e ({ frames := 2, cells := 0, slots := 0, locals := 42 } : Room) s m ([.ref (da 0), .int x0, .int x1] : List Value).toArray below meth c H locs 0 0 Q (F0 m 2 ls [])) (v1 : Int32) (v2 : Int32) (v3 : Int32) (v4 : Int32) (z0 : DealsT) (H : Heap) (locs : List Loc) (ls : Array Slot), f_X1_tally_b45 rd k2 v1 v2 v3 v4 z0 = some (u0) → va_P D vwCl (w_Deals dA da (a 0) z0 ++ (w_Ride dA a h0 h1 rd)) H → va_D A (w_Deals dA da (a 0) z0 ++ (w_Ride dA a h0 h1 rd)) → va_S A s.heap H locs → lv_has ls 5 [(0, .ref (da 0)), (1, .int v1), (2, .int v2), (3, .int v3), (4, .int v4)] → W p l e ({ frames := 2, cells := 0, slots := 0, locals := 42 } : Room) s m ([.ref (da 0), .int x0, .int x1] : List Value).toArray below meth c H locs 0 0 Q (F0 m 45 ls []) := by
    intro k2 hk2 v1 v2 v3 v4 z0 H locs ls hf hP hD hS hl
    rw [f_X1_tally_b45] at hf
    refine lv_iload hx hb dX1_tally_45 (lv_at hl 4 rfl) ?_
    refine lv_aload_n hx hb dX1_tally_47 rfl (lv_at hl 0 rfl) ?_
    refine va_get (D := D) (ci := 1) (v := .ref (da 1)) (C := RX1) (T := TX1) (N := 5) hx hb hts kb_inX1 hown hK.1 hP 0 rfl rfl 1 (by decide) (hK.2.w ww_2_135 rfl _) (fun _ h9 => h9) rfl dX1_tally_48 ?_
    refine lv_iload_n hx hb dX1_tally_51 rfl (lv_at hl 3 rfl) ?_
    obtain ⟨h_6, hf⟩ := kb_if hf
    refine va_iald (D := D) hx hb hK.1 hP 1 0 rfl rfl h_6 dX1_tally_52 ?_
    refine lv_icmp_lt (tgt := 66) hx hb dX1_tally_53 (by decide) (fun c_7 => ?_) (fun c_7 => ?_)
    · rw [if_pos c_7] at hf
      refine lv_iinc (v := (v3 + (1 : Int32))) (lv' := [(3, .int (v3 + (1 : Int32))), (0, .ref (da 0)), (1, .int v1), (2, .int v2), (4, .int v4)]) hx hb dX1_tally_66 hl (k := 3) rfl (by rfl) (by decide) rfl (fun ls hl => ?_)
      refine lv_goto (tgt := 2) hx hb dX1_tally_69 (by decide) ?_
      exact hk2 _ _ _ _ _ _ _ hf hP hD hS (lv_sub hl [1, 2, 3, 0] rfl)
    · rw [if_neg c_7] at hf
      refine lv_aload_n hx hb dX1_tally_56 rfl (lv_at hl 0 rfl) ?_
      refine va_get (D := D) (ci := 1) (v := .ref (da 2)) (C := RX1) (T := TX1) (N := 5) hx hb hts kb_inX1 hown hK.1 hP 0 rfl rfl 2 (by decide) (hK.2.w ww_2_137 rfl _) (fun _ h9 => h9) rfl dX1_tally_57 ?_
      refine lv_iload_n hx hb dX1_tally_60 rfl (lv_at hl 3 rfl) ?_
      refine lv_dup2_11 hx hb dX1_tally_61 rfl rfl ?_
      obtain ⟨h_8, hf⟩ := kb_if hf
      refine va_iald (D := D) hx hb hK.1 hP 2 0 rfl rfl h_8 dX1_tally_62 ?_
      refine lv_iconst (v := (1 : Int32)) hx hb dX1_tally_63 (by decide) ?_
      refine lv_iadd hx hb dX1_tally_64 ?_
      obtain ⟨h_9, hf⟩ := kb_if hf
      refine va_iast (D := D) hx hb hK.1 hP hD hS 2 0 rfl rfl h_9 dX1_tally_65 (fun H locs hP hD hS => ?_)
      have hP : va_P D vwCl (w_Deals dA da (a 0) (de_set_asMuch z0 (upd (de_asMuch z0) (v3).toNatClampNeg (((de_asMuch z0) (v3).toNatClampNeg) + (1 : Int32)))) ++ (w_Ride dA a h0 h1 rd)) H := hP
      have hD : va_D A (w_Deals dA da (a 0) (de_set_asMuch z0 (upd (de_asMuch z0) (v3).toNatClampNeg (((de_asMuch z0) (v3).toNatClampNeg) + (1 : Int32)))) ++ (w_Ride dA a h0 h1 rd)) := hD
      exact B_66 k2 hk2 _ _ _ _ _ _ _ hf hP hD hS (lv_sub hl [0, 1, 2, 3] rfl)
  have B_31 : ∀ (k2 : Int32 → Int32 → Int32 → DealsT → Option (DealsT)) (hk2 : ∀ (v1 : Int32) (v2 : Int32) (v3 : Int32) (z0 : DealsT) (H : Heap) (locs : List Loc) (ls : Array Slot), k2 v1 v2 v3 z0 = some (u0) → va_P D vwCl (w_Deals dA da (a 0) z0 ++ (w_Ride dA a h0 h1 rd)) H → va_D A (w_Deals dA da (a 0) z0 ++ (w_Ride dA a h0 h1 rd)) → va_S A s.heap H locs → lv_has ls 5 [(0, .ref (da 0)), (1, .int v1), (2, .int v2), (3, .int v3)] → W p l e ({ frames := 2, cells := 0, slots := 0, locals := 42 } : Room) s m ([.ref (da 0), .int x0, .int x1] : List Value).toArray below meth c H locs 0 0 Q (F0 m 2 ls [])) (v1 : Int32) (v2 : Int32) (v3 : Int32) (s0 : Int32) (z0 : DealsT) (H : Heap) (locs : List Loc) (ls : Array Slot), f_X1_tally_b31 rd k2 v1 v2 v3 s0 z0 = some (u0) → va_P D vwCl (w_Deals dA da (a 0) z0 ++ (w_Ride dA a h0 h1 rd)) H → va_D A (w_Deals dA da (a 0) z0 ++ (w_Ride dA a h0 h1 rd)) → va_S A s.heap H locs → lv_has ls 5 [(0, .ref (da 0)), (1, .int v1), (2, .int v2), (3, .int v3)] → W p l e ({ frames := 2, cells := 0, slots := 0, locals := 42 } : Room) s m ([.ref (da 0), .int x0, .int x1] : List Value).toArray below meth c H locs 0 0 Q (F0 m 31 ls [.int s0]) := by
    intro k2 hk2 v1 v2 v3 s0 z0 H locs ls hf hP hD hS hl
    rw [f_X1_tally_b31] at hf
    refine lv_istore (lv' := [(4, .int s0), (0, .ref (da 0)), (1, .int v1), (2, .int v2), (3, .int v3)]) hx hb dX1_tally_31 hl (by decide) rfl (fun ls hl => ?_)
    refine lv_iload_n hx hb dX1_tally_33 rfl (lv_at hl 3 rfl) ?_
    refine lv_if_eq (tgt := 45) hx hb dX1_tally_34 (by decide) (fun c_5 => ?_) (fun c_5 => ?_)
    · rw [if_pos c_5] at hf
      exact B_45 k2 hk2 _ _ _ _ _ _ _ _ hf hP hD hS (lv_sub hl [1, 2, 3, 4, 0] rfl)
    · rw [if_neg c_5] at hf
      refine lv_aload_n hx hb dX1_tally_37 rfl (lv_at hl 1 rfl) ?_
      refine va_get (D := D) (ci := 1) (v := .ref (da 1)) (C := RX1) (T := TX1) (N := 5) hx hb hts kb_inX1 hown hK.1 hP 0 rfl rfl 1 (by decide) (hK.2.w ww_2_135 rfl _) (fun _ h9 => h9) rfl dX1_tally_38 ?_
      refine lv_iload_n hx hb dX1_tally_41 rfl (lv_at hl 4 rfl) ?_
      refine lv_iload hx hb dX1_tally_42 (lv_at hl 0 rfl) ?_
      obtain ⟨h_10, hf⟩ := kb_if hf
      refine va_iast (D := D) hx hb hK.1 hP hD hS 1 0 rfl rfl h_10 dX1_tally_44 (fun H locs hP hD hS => ?_)
      have hP : va_P D vwCl (w_Deals dA da (a 0) (de_set_told z0 (upd (de_told z0) (v3).toNatClampNeg s0)) ++ (w_Ride dA a h0 h1 rd)) H := hP
      have hD : va_D A (w_Deals dA da (a 0) (de_set_told z0 (upd (de_told z0) (v3).toNatClampNeg s0)) ++ (w_Ride dA a h0 h1 rd)) := hD
      exact B_45 k2 hk2 _ _ _ _ _ _ _ _ hf hP hD hS (lv_sub hl [1, 2, 3, 4, 0] rfl)
  have B_2 : ∀ (n : Nat) (v1 : Int32) (v2 : Int32) (v3 : Int32) (z0 : DealsT) (H : Heap) (locs : List Loc) (ls : Array Slot), f_X1_tally_b2 rd n v1 v2 v3 z0 = some (u0) → va_P D vwCl (w_Deals dA da (a 0) z0 ++ (w_Ride dA a h0 h1 rd)) H → va_D A (w_Deals dA da (a 0) z0 ++ (w_Ride dA a h0 h1 rd)) → va_S A s.heap H locs → lv_has ls 5 [(0, .ref (da 0)), (1, .int v1), (2, .int v2), (3, .int v3)] → W p l e ({ frames := 2, cells := 0, slots := 0, locals := 42 } : Room) s m ([.ref (da 0), .int x0, .int x1] : List Value).toArray below meth c H locs 0 0 Q (F0 m 2 ls []) := by
    intro n
    induction n with
    | zero =>
      intro v1 v2 v3 z0 H locs ls hf
      exact absurd hf (by simp [f_X1_tally_b2])
    | succ n ih =>
      intro v1 v2 v3 z0 H locs ls hf hP hD hS hl
      rw [f_X1_tally_b2] at hf
      refine lv_iload_n hx hb dX1_tally_2 rfl (lv_at hl 3 rfl) ?_
      refine lv_iload_n hx hb dX1_tally_3 rfl (lv_at hl 1 rfl) ?_
      refine lv_icmp_ge (tgt := 72) hx hb dX1_tally_4 (by decide) (fun c_1 => ?_) (fun c_1 => ?_)
      · rw [if_pos c_1] at hf
        exact RET _ H _ ls 72 hf hP hD hS dX1_tally_72
      · rw [if_neg c_1] at hf
        refine lv_aload_n hx hb dX1_tally_7 rfl (lv_at hl 0 rfl) ?_
        refine va_get (D := D) (ci := 1) (v := .ref (a 0)) (C := RX1) (T := TX1) (N := 5) hx hb hts kb_inX1 hown hK.1 hP 0 rfl rfl 4 (by decide) (hK.2.w ww_2_140 rfl _) (fun _ h9 => h9) rfl dX1_tally_8 ?_
        refine va_get (D := D) (ci := 6) (v := .ref (a 6)) (C := RX6) (T := TX6) (N := 11) hx hb hts kb_inX6 hown hK.1 hP 4 rfl rfl 4 (by decide) (hK.2.w ww_2_75 rfl _) (fun _ h9 => h9) rfl dX1_tally_11 ?_
        refine lv_iload_n hx hb dX1_tally_14 rfl (lv_at hl 3 rfl) ?_
        obtain ⟨h_2, hf⟩ := kb_if hf
        refine va_iald (D := D) hx hb hK.1 hP 10 0 rfl rfl h_2 dX1_tally_15 ?_
        refine lv_if_ne (tgt := 23) hx hb dX1_tally_16 (by decide) (fun c_3 => ?_) (fun c_3 => ?_)
        · rw [if_neg c_3] at hf
          refine lv_aload_n hx hb dX1_tally_23 rfl (lv_at hl 0 rfl) ?_
          refine va_get (D := D) (ci := 1) (v := .ref (a 0)) (C := RX1) (T := TX1) (N := 5) hx hb hts kb_inX1 hown hK.1 hP 0 rfl rfl 4 (by decide) (hK.2.w ww_2_140 rfl _) (fun _ h9 => h9) rfl dX1_tally_24 ?_
          refine lv_iload_n hx hb dX1_tally_27 rfl (lv_at hl 3 rfl) ?_
          obtain ⟨r4, hc4, hf⟩ := kb_bind hf
          refine kb_ci (ws2 := (w_Deals dA da (a 0) z0 ++ (w_Ride dA a h0 h1 rd))) (kb_rV (n := 1) (As := [.int v3]) (rest := []) hx hb hml hown hK (c_X6_shunning l D dA H.size a h0 h1 rd v3 r4 hc4) ⟨ww_4_112, ww_5_34, ww_4_110, ww_4_111, ww_1_8, rfl, by decide, by decide⟩ rfl rfl (by decide +kernel) ⟨Nat.le_of_ble_eq_true rfl, Nat.le_of_ble_eq_true rfl⟩ hP hD hS hA hE [4, 5, 6, 7, 8, 9, 10, 11, 12] rfl (by decide) 0 rfl rfl rfl hl.1 rfl (Nat.le_of_ble_eq_true rfl) dX1_tally_28 ⟨Nat.le_of_ble_eq_true rfl, Nat.le_of_ble_eq_true rfl⟩) hP hD hS hA [4, 5, 6, 7, 8, 9, 10, 11, 12] [0, 1, 2, 3] [0, 1, 2, 3, 4, 5, 6, 7, 8, 9, 10, 11, 12] rfl rfl (by decide) (by decide) rfl (by decide) (fun H locs hP hD hS => ?_)
          exact B_31 (f_X1_tally_b2 rd n) ih _ _ _ _ _ _ _ _ hf hP hD hS (lv_sub hl [0, 1, 2, 3] rfl)
        · rw [if_pos c_3] at hf
          refine lv_iconst (v := (-1 : Int32)) hx hb dX1_tally_19 (by decide) ?_
          refine lv_goto (tgt := 31) hx hb dX1_tally_20 (by decide) ?_
          exact B_31 (f_X1_tally_b2 rd n) ih _ _ _ _ _ _ _ _ hf hP hD hS (lv_sub hl [0, 1, 2, 3] rfl)
  have E0 : ∀ (H : Heap) (locs : List Loc), va_P D vwCl (w_Deals dA da (a 0) de ++ (w_Ride dA a h0 h1 rd)) H → va_D A (w_Deals dA da (a 0) de ++ (w_Ride dA a h0 h1 rd)) → va_S A s.heap H locs → W p l e ({ frames := 2, cells := 0, slots := 0, locals := 42 } : Room) s m ([.ref (da 0), .int x0, .int x1] : List Value).toArray below meth c H locs 0 0 Q (F0 m 0 ls []) := by
    intro H locs hP hD hS
    rw [f_X1_tally] at hf
    refine lv_iconst (v := (0 : Int32)) hx hb dX1_tally_0 (by decide) ?_
    refine lv_istore_n (lv' := [(3, .int (0 : Int32)), (0, .ref (da 0)), (1, .int x0), (2, .int x1)]) hx hb dX1_tally_1 rfl hl (by decide) rfl (fun ls hl => ?_)
    exact B_2 4096 _ _ _ _ _ _ _ hf hP hD hS (lv_sub hl [1, 2, 3, 0] rfl)
  exact E0 _ _ hP hD hS

noncomputable def f_X1_countAll_b164 (pl : PlanT) (z0 : DealsT) (z1 : RideT) : Option (DealsT × RideT) := some (z0, z1)
noncomputable def f_X1_countAll_b153 (pl : PlanT) (k45 : Int32 → Int32 → Int32 → DealsT → RideT → Option (DealsT × RideT)) (v2 : Int32) (v3 : Int32) (v4 : Int32) (z0 : DealsT) (z1 : RideT) : Option (DealsT × RideT) := k45 v2 v3 (v4 + (1 : Int32)) z0 z1
noncomputable def f_X1_countAll_b148 (pl : PlanT) (k45 : Int32 → Int32 → Int32 → DealsT → RideT → Option (DealsT × RideT)) (v2 : Int32) (v3 : Int32) (v4 : Int32) (z0 : DealsT) (z1 : RideT) : Option (DealsT × RideT) := (f_X1_dealNext z0 v2).bind fun r9 => f_X1_countAll_b153 pl k45 v2 v3 v4 r9 z1
noncomputable def f_X1_countAll_b145 (pl : PlanT) (k45 : Int32 → Int32 → Int32 → DealsT → RideT → Option (DealsT × RideT)) (v2 : Int32) (v3 : Int32) (v4 : Int32) (s0 : Int32) (s1 : Int32) (z0 : DealsT) (z1 : RideT) : Option (DealsT × RideT) := (f_X1_tally z0 z1 s1 s0).bind fun r8 => f_X1_countAll_b148 pl k45 v2 v3 v4 r8 z1
noncomputable def f_X1_countAll_b127 (pl : PlanT) (k45 : Int32 → Int32 → Int32 → DealsT → RideT → Option (DealsT × RideT)) (k105 : Int32 → Int32 → Int32 → Int32 → DealsT → RideT → Option (DealsT × RideT)) (v2 : Int32) (v3 : Int32) (v4 : Int32) (v5 : Int32) (z0 : DealsT) (z1 : RideT) : Option (DealsT × RideT) := k105 v2 v3 v4 (v5 + (1 : Int32)) z0 z1
noncomputable def f_X1_countAll_b120 (pl : PlanT) (k45 : Int32 → Int32 → Int32 → DealsT → RideT → Option (DealsT × RideT)) (k105 : Int32 → Int32 → Int32 → Int32 → DealsT → RideT → Option (DealsT × RideT)) (v2 : Int32) (v3 : Int32) (v4 : Int32) (v5 : Int32) (z0 : DealsT) (z1 : RideT) : Option (DealsT × RideT) := (f_X6_board z1 pl).bind fun r11 => f_X1_countAll_b127 pl k45 k105 v2 v3 v4 v5 z0 r11
noncomputable def f_X1_countAll_b105 (pl : PlanT) (k45 : Int32 → Int32 → Int32 → DealsT → RideT → Option (DealsT × RideT)) : Nat → Int32 → Int32 → Int32 → Int32 → DealsT → RideT → Option (DealsT × RideT)
  | 0, _, _, _, _, _, _ => none
  | n + 1, v2, v3, v4, v5, z0, z1 => (if (12 : Int32) ≤ v5 then (if v4 = 0 then f_X1_countAll_b145 pl k45 v2 v3 v4 (1 : Int32) v2 z0 z1 else f_X1_countAll_b145 pl k45 v2 v3 v4 (0 : Int32) v2 z0 z1) else (f_X6_halt z1 pl).bind fun r10 => f_X1_countAll_b120 pl k45 (f_X1_countAll_b105 pl k45 n) v2 v3 v4 v5 z0 r10.2)
noncomputable def f_X1_countAll_b96 (pl : PlanT) (k45 : Int32 → Int32 → Int32 → DealsT → RideT → Option (DealsT × RideT)) (k62 : Int32 → Int32 → Int32 → Int32 → DealsT → RideT → Option (DealsT × RideT)) (v2 : Int32) (v3 : Int32) (v4 : Int32) (v5 : Int32) (z0 : DealsT) (z1 : RideT) : Option (DealsT × RideT) := k62 v2 v3 v4 (v5 + (1 : Int32)) z0 z1
noncomputable def f_X1_countAll_b62 (pl : PlanT) (k45 : Int32 → Int32 → Int32 → DealsT → RideT → Option (DealsT × RideT)) : Nat → Int32 → Int32 → Int32 → Int32 → DealsT → RideT → Option (DealsT × RideT)
  | 0, _, _, _, _, _, _ => none
  | n + 1, v2, v3, v4, v5, z0, z1 => (if v2 ≤ v5 then f_X1_countAll_b105 pl k45 4096 v2 v3 v4 (0 : Int32) z0 z1 else if kb_in? v5 6 then if kb_in? ((de_hand z0) (v5).toNatClampNeg) 8 then if kb_in? v5 9 then f_X1_countAll_b96 pl k45 (f_X1_countAll_b62 pl k45 n) v2 v3 v4 v5 z0 (rd_set_scene z1 (sc_set_looks (rd_scene z1) (upd (sc_looks (rd_scene z1)) (v5).toNatClampNeg ((qr_looks (pl_riders pl)) (((de_hand z0) (v5).toNatClampNeg)).toNatClampNeg)))) else none else none else none)
noncomputable def f_X1_countAll_b59 (pl : PlanT) (k45 : Int32 → Int32 → Int32 → DealsT → RideT → Option (DealsT × RideT)) (v2 : Int32) (v3 : Int32) (v4 : Int32) (z0 : DealsT) (z1 : RideT) : Option (DealsT × RideT) := f_X1_countAll_b62 pl k45 4096 v2 v3 v4 (0 : Int32) z0 z1
noncomputable def f_X1_countAll_b45 (pl : PlanT) : Nat → Int32 → Int32 → Int32 → DealsT → RideT → Option (DealsT × RideT)
  | 0, _, _, _, _, _ => none
  | n + 1, v2, v3, v4, z0, z1 => (if v3 ≤ v4 then f_X1_countAll_b164 pl (de_set_counted z0 (1 : Int32)) z1 else (f_X6_begin z1 pl).bind fun r4 => f_X1_countAll_b59 pl (f_X1_countAll_b45 pl n) v2 v3 v4 z0 r4)
noncomputable def f_X1_countAll_b31 (pl : PlanT) (k12 : Int32 → Int32 → DealsT → RideT → Option (DealsT × RideT)) (v2 : Int32) (v3 : Int32) (z0 : DealsT) (z1 : RideT) : Option (DealsT × RideT) := k12 v2 (v3 + (1 : Int32)) z0 z1
noncomputable def f_X1_countAll_b24 (pl : PlanT) (k12 : Int32 → Int32 → DealsT → RideT → Option (DealsT × RideT)) (v2 : Int32) (v3 : Int32) (z0 : DealsT) (z1 : RideT) : Option (DealsT × RideT) := if kb_in? v3 8 then f_X1_countAll_b31 pl k12 v2 v3 (de_set_asMuch z0 (upd (de_asMuch z0) (v3).toNatClampNeg (0 : Int32))) z1 else none
noncomputable def f_X1_countAll_b12 (pl : PlanT) : Nat → Int32 → Int32 → DealsT → RideT → Option (DealsT × RideT)
  | 0, _, _, _, _ => none
  | n + 1, v2, v3, z0, z1 => (if v2 ≤ v3 then (f_X1_howMany v2).bind fun r2 => f_X1_countAll_b45 pl 4096 v2 r2 (0 : Int32) z0 z1 else if kb_in? v3 6 then f_X1_countAll_b24 pl (f_X1_countAll_b12 pl n) v2 v3 (de_set_hand z0 (upd (de_hand z0) (v3).toNatClampNeg v3)) z1 else none)
noncomputable def f_X1_countAll (de : DealsT) (rd : RideT) (pl : PlanT) : Option (DealsT × RideT) := f_X1_countAll_b12 pl 4096 (if (6 : Int32) < (pl_riderCount pl) then (6 : Int32) else (pl_riderCount pl)) (0 : Int32) de rd
set_option maxHeartbeats 4000000 in
set_option maxRecDepth 100000 in
theorem c_X1_countAll (l : Launch) (D : va_G) (dA : Nat → ClassId) (sz : Nat) (da : Nat → Nat) (a : Nat → Nat) (pa : Nat → Nat) (ph : Nat → Nat) (de : DealsT) (rd : RideT) (pl : PlanT) (u0 : DealsT) (u1 : RideT) (hf : f_X1_countAll de rd pl = some (u0, u1)) : kb_FMv l yX1_countAll cX1_countAll 6 none ({ frames := 6, cells := 0, slots := 0, locals := 149 } : Room) D dA [.ref (da 0), .ref (pa 0)] sz (w_Deals dA da (a 0) de ++ (w_Ride dA a (ph 0) (ph 1) rd ++ (w_Plan dA pa pl))) 0 0 (fun (ph2 : Nat → Nat) => (w_Deals dA da (a 0) u0 ++ (w_Ride dA a (ph2 0) (ph2 1) u1 ++ (w_Plan dA pa pl)))) := by
  refine Met.ofW (cc := cX1_countAll) (maxL := 6) (ret := none) (by decide) rfl ?_
  intro p e s m args below meth c s₁ B hml hv
  obtain ⟨rfl, hsz, hP, hK, hD0, hE⟩ := hv
  have hx := B.exec
  have hb := B.bytes
  have hr := B.returns
  have hown : s.vm.findClass RX1 = some m.cls := findClass_of_methodNamed B.named
  have hlocks := B.notSynchronized
  have hts : ∀ w ∈ kb_gw, w.before ([.ref (da 0), .ref (pa 0)] : List Value).toArray s = true := fun w hw => hK.2.1 w hw _
  subst hsz
  have hD := hD0.self (sz := s.heap.size)
  generalize hAe : va_A (w_Deals dA da (a 0) de ++ (w_Ride dA a (ph 0) (ph 1) rd ++ (w_Plan dA pa pl))) s.heap.size = A at hD hE ⊢
  have hA : ∀ q : Nat, s.heap.size ≤ q → A q := fun q h => by rw [← hAe]; exact Or.inr h
  have hS : va_S A s.heap s.heap [] := va_S.rf
  have hl := lv_entry ([.ref (da 0), .ref (pa 0)]) (n := 6) (Nat.le_of_ble_eq_true rfl)
  rw [lg_entry_eq]
  generalize (lg_sl ([.ref (da 0), .ref (pa 0)]) ++ List.replicate (6 - (lg_sl ([.ref (da 0), .ref (pa 0)])).length) Slot.unset).toArray = ls at hl ⊢
  have hl : lv_has ls 6 [(0, .ref (da 0)), (1, .ref (pa 0))] := hl
  generalize hQ : MQ below (va_Qv (fun (_ : Nat → Nat) => True) (fun ph2 => kb_B D A (w_Deals dA da (a 0) u0 ++ (w_Ride dA a (ph2 0) (ph2 1) u1 ++ (w_Plan dA pa pl))) ()) A) ([.ref (da 0), .ref (pa 0)] : List Value).toArray s 0 0 A = Q
  show W p l e ({ frames := 6, cells := 0, slots := 0, locals := 149 } : Room) s m ([.ref (da 0), .ref (pa 0)] : List Value).toArray below meth c s.heap [] 0 0 Q (F0 m 0 ls [])
  have RET : ∀ (ph2 : Nat → Nat) (w0 : DealsT) (w1 : RideT) (H : Heap) (locs : List Loc) (ls : Array Slot) (pc : Nat), some (w0, w1) = some (u0, u1) → va_P D vwCl (w_Deals dA da (a 0) w0 ++ (w_Ride dA a (ph2 0) (ph2 1) w1 ++ (w_Plan dA pa pl))) H → va_D A (w_Deals dA da (a 0) w0 ++ (w_Ride dA a (ph2 0) (ph2 1) w1 ++ (w_Plan dA pa pl))) → va_S A s.heap H locs → decode cX1_countAll pc = .ok (.return_, 1) → W p l e ({ frames := 6, cells := 0, slots := 0, locals := 149 } : Room) s m ([.ref (da 0), .ref (pa 0)] : List Value).toArray below meth c H locs 0 0 Q (F0 m pc ls []) := by
    intro ph2 w0 w1 H locs ls pc hq hP hD hS hd
    cases hq
    rw [← hQ]
    exact W.vret hx hb hr (fun t ht hW => ⟨⟨ph2, rfl, trivial, by rw [ht]; exact hP, hD⟩, hS.F ht⟩) hS.2.2 hd
  have B_164 : ∀ (ph : Nat → Nat) (z0 : DealsT) (z1 : RideT) (H : Heap) (locs : List Loc) (ls : Array Slot), f_X1_countAll_b164 pl z0 z1 = some (u0, u1) → va_P D vwCl (w_Deals dA da (a 0) z0 ++ (w_Ride dA a (ph 0) (ph 1) z1 ++ (w_Plan dA pa pl))) H → va_D A (w_Deals dA da (a 0) z0 ++ (w_Ride dA a (ph 0) (ph 1) z1 ++ (w_Plan dA pa pl))) → va_S A s.heap H locs → lv_has ls 6 [] → W p l e ({ frames := 6, cells := 0, slots := 0, locals := 149 } : Room) s m ([.ref (da 0), .ref (pa 0)] : List Value).toArray below meth c H locs 0 0 Q (F0 m 164 ls []) := by
    intro ph z0 z1 H locs ls hf hP hD hS hl
    rw [f_X1_countAll_b164] at hf
    exact RET (kb_ph [(ph 0), (ph 1)]) _ _ H _ ls 164 hf hP hD hS dX1_countAll_164
  have B_153 : ∀ (k45 : Int32 → Int32 → Int32 → DealsT → RideT → Option (DealsT × RideT)) (hk45 : ∀ (ph : Nat → Nat) (v2 : Int32) (v3 : Int32) (v4 : Int32) (z0 : DealsT) (z1 : RideT) (H : Heap) (locs : List Loc) (ls : Array Slot), k45 v2 v3 v4 z0 z1 = some (u0, u1) → va_P D vwCl (w_Deals dA da (a 0) z0 ++ (w_Ride dA a (ph 0) (ph 1) z1 ++ (w_Plan dA pa pl))) H → va_D A (w_Deals dA da (a 0) z0 ++ (w_Ride dA a (ph 0) (ph 1) z1 ++ (w_Plan dA pa pl))) → va_S A s.heap H locs → lv_has ls 6 [(0, .ref (da 0)), (1, .ref (pa 0)), (2, .int v2), (3, .int v3), (4, .int v4)] → W p l e ({ frames := 6, cells := 0, slots := 0, locals := 149 } : Room) s m ([.ref (da 0), .ref (pa 0)] : List Value).toArray below meth c H locs 0 0 Q (F0 m 45 ls [])) (ph : Nat → Nat) (v2 : Int32) (v3 : Int32) (v4 : Int32) (z0 : DealsT) (z1 : RideT) (H : Heap) (locs : List Loc) (ls : Array Slot), f_X1_countAll_b153 pl k45 v2 v3 v4 z0 z1 = some (u0, u1) → va_P D vwCl (w_Deals dA da (a 0) z0 ++ (w_Ride dA a (pa 0) (pa 1) z1 ++ (w_Plan dA pa pl))) H → va_D A (w_Deals dA da (a 0) z0 ++ (w_Ride dA a (pa 0) (pa 1) z1 ++ (w_Plan dA pa pl))) → va_S A s.heap H locs → lv_has ls 6 [(0, .ref (da 0)), (1, .ref (pa 0)), (2, .int v2), (3, .int v3), (4, .int v4)] → W p l e ({ frames := 6, cells := 0, slots := 0, locals := 149 } : Room) s m ([.ref (da 0), .ref (pa 0)] : List Value).toArray below meth c H locs 0 0 Q (F0 m 153 ls []) := by
    intro k45 hk45 ph v2 v3 v4 z0 z1 H locs ls hf hP hD hS hl
    rw [f_X1_countAll_b153] at hf
    refine lv_iinc (v := (v4 + (1 : Int32))) (lv' := [(4, .int (v4 + (1 : Int32))), (0, .ref (da 0)), (1, .ref (pa 0)), (2, .int v2), (3, .int v3)]) hx hb dX1_countAll_153 hl (k := 4) rfl (by rfl) (by decide) rfl (fun ls hl => ?_)
    refine lv_goto (tgt := 45) hx hb dX1_countAll_156 (by decide) ?_
    exact hk45 (kb_ph [(pa 0), (pa 1)]) _ _ _ _ _ _ _ _ hf hP hD hS (lv_sub hl [1, 2, 3, 4, 0] rfl)
  have B_148 : ∀ (k45 : Int32 → Int32 → Int32 → DealsT → RideT → Option (DealsT × RideT)) (hk45 : ∀ (ph : Nat → Nat) (v2 : Int32) (v3 : Int32) (v4 : Int32) (z0 : DealsT) (z1 : RideT) (H : Heap) (locs : List Loc) (ls : Array Slot), k45 v2 v3 v4 z0 z1 = some (u0, u1) → va_P D vwCl (w_Deals dA da (a 0) z0 ++ (w_Ride dA a (ph 0) (ph 1) z1 ++ (w_Plan dA pa pl))) H → va_D A (w_Deals dA da (a 0) z0 ++ (w_Ride dA a (ph 0) (ph 1) z1 ++ (w_Plan dA pa pl))) → va_S A s.heap H locs → lv_has ls 6 [(0, .ref (da 0)), (1, .ref (pa 0)), (2, .int v2), (3, .int v3), (4, .int v4)] → W p l e ({ frames := 6, cells := 0, slots := 0, locals := 149 } : Room) s m ([.ref (da 0), .ref (pa 0)] : List Value).toArray below meth c H locs 0 0 Q (F0 m 45 ls [])) (ph : Nat → Nat) (v2 : Int32) (v3 : Int32) (v4 : Int32) (z0 : DealsT) (z1 : RideT) (H : Heap) (locs : List Loc) (ls : Array Slot), f_X1_countAll_b148 pl k45 v2 v3 v4 z0 z1 = some (u0, u1) → va_P D vwCl (w_Deals dA da (a 0) z0 ++ (w_Ride dA a (pa 0) (pa 1) z1 ++ (w_Plan dA pa pl))) H → va_D A (w_Deals dA da (a 0) z0 ++ (w_Ride dA a (pa 0) (pa 1) z1 ++ (w_Plan dA pa pl))) → va_S A s.heap H locs → lv_has ls 6 [(0, .ref (da 0)), (1, .ref (pa 0)), (2, .int v2), (3, .int v3), (4, .int v4)] → W p l e ({ frames := 6, cells := 0, slots := 0, locals := 149 } : Room) s m ([.ref (da 0), .ref (pa 0)] : List Value).toArray below meth c H locs 0 0 Q (F0 m 148 ls []) := by
    intro k45 hk45 ph v2 v3 v4 z0 z1 H locs ls hf hP hD hS hl
    rw [f_X1_countAll_b148] at hf
    refine lv_aload_n hx hb dX1_countAll_148 rfl (lv_at hl 0 rfl) ?_
    refine lv_iload_n hx hb dX1_countAll_149 rfl (lv_at hl 2 rfl) ?_
    obtain ⟨r9, hc9, hf⟩ := kb_bind hf
    refine kb_cv (ws2 := (w_Deals dA da (a 0) r9 ++ (w_Ride dA a (pa 0) (pa 1) z1 ++ (w_Plan dA pa pl)))) (kb_rV (n := 1) (As := [.int v2]) (rest := []) hx hb hml hown hK (c_X1_dealNext l D dA H.size da (a 0) z0 v2 r9 hc9) ⟨ww_5_38, ww_5_35, ww_5_37, ws_42, ww_1_11, rfl, by decide, by decide⟩ rfl rfl (by decide +kernel) ⟨Nat.le_of_ble_eq_true rfl, Nat.le_of_ble_eq_true rfl⟩ hP hD hS hA hE [0, 1, 2, 3] rfl (by decide) 0 rfl rfl rfl hl.1 rfl (Nat.le_of_ble_eq_true rfl) dX1_countAll_150 ⟨Nat.le_of_ble_eq_true rfl, Nat.le_of_ble_eq_true rfl⟩) hP hD hS hA [0, 1, 2, 3] [4, 5, 6, 7, 8, 9, 10, 11, 12, 13, 14, 15, 16, 17, 18, 19, 20, 21, 22, 23, 24, 25, 26, 27, 28, 29, 30, 31, 32, 33] [30, 31, 32, 33, 0, 1, 2, 3, 4, 5, 6, 7, 8, 9, 10, 11, 12, 13, 14, 15, 16, 17, 18, 19, 20, 21, 22, 23, 24, 25, 26, 27, 28, 29] rfl rfl (by decide) (by decide) rfl (by decide) (fun H locs hP hD hS => ?_)
    exact B_153 k45 hk45 (kb_ph [(pa 0), (pa 1)]) _ _ _ _ _ _ _ _ hf hP hD hS (lv_sub hl [0, 1, 2, 3, 4] rfl)
  have B_145 : ∀ (k45 : Int32 → Int32 → Int32 → DealsT → RideT → Option (DealsT × RideT)) (hk45 : ∀ (ph : Nat → Nat) (v2 : Int32) (v3 : Int32) (v4 : Int32) (z0 : DealsT) (z1 : RideT) (H : Heap) (locs : List Loc) (ls : Array Slot), k45 v2 v3 v4 z0 z1 = some (u0, u1) → va_P D vwCl (w_Deals dA da (a 0) z0 ++ (w_Ride dA a (ph 0) (ph 1) z1 ++ (w_Plan dA pa pl))) H → va_D A (w_Deals dA da (a 0) z0 ++ (w_Ride dA a (ph 0) (ph 1) z1 ++ (w_Plan dA pa pl))) → va_S A s.heap H locs → lv_has ls 6 [(0, .ref (da 0)), (1, .ref (pa 0)), (2, .int v2), (3, .int v3), (4, .int v4)] → W p l e ({ frames := 6, cells := 0, slots := 0, locals := 149 } : Room) s m ([.ref (da 0), .ref (pa 0)] : List Value).toArray below meth c H locs 0 0 Q (F0 m 45 ls [])) (ph : Nat → Nat) (v2 : Int32) (v3 : Int32) (v4 : Int32) (s0 : Int32) (s1 : Int32) (z0 : DealsT) (z1 : RideT) (H : Heap) (locs : List Loc) (ls : Array Slot), f_X1_countAll_b145 pl k45 v2 v3 v4 s0 s1 z0 z1 = some (u0, u1) → va_P D vwCl (w_Deals dA da (a 0) z0 ++ (w_Ride dA a (pa 0) (pa 1) z1 ++ (w_Plan dA pa pl))) H → va_D A (w_Deals dA da (a 0) z0 ++ (w_Ride dA a (pa 0) (pa 1) z1 ++ (w_Plan dA pa pl))) → va_S A s.heap H locs → lv_has ls 6 [(0, .ref (da 0)), (1, .ref (pa 0)), (2, .int v2), (3, .int v3), (4, .int v4)] → W p l e ({ frames := 6, cells := 0, slots := 0, locals := 149 } : Room) s m ([.ref (da 0), .ref (pa 0)] : List Value).toArray below meth c H locs 0 0 Q (F0 m 145 ls [.int s0, .int s1, .ref (da 0)]) := by
    intro k45 hk45 ph v2 v3 v4 s0 s1 z0 z1 H locs ls hf hP hD hS hl
    rw [f_X1_countAll_b145] at hf
    obtain ⟨r8, hc8, hf⟩ := kb_bind hf
    refine kb_cv (ws2 := (w_Deals dA da (a 0) r8 ++ (w_Ride dA a (pa 0) (pa 1) z1 ++ (w_Plan dA pa pl)))) (kb_rV (n := 2) (As := [.int s1, .int s0]) (rest := []) hx hb hml hown hK (c_X1_tally l D dA H.size da a (pa 0) (pa 1) z0 z1 s1 s0 r8 hc8) ⟨ww_5_33, ww_5_30, ww_5_32, ws_41, ww_1_11, rfl, by decide, by decide⟩ rfl rfl (by decide +kernel) ⟨Nat.le_of_ble_eq_true rfl, Nat.le_of_ble_eq_true rfl⟩ hP hD hS hA hE [0, 1, 2, 3, 4, 5, 6, 7, 8, 9, 10, 11, 12] rfl (by decide) 0 rfl rfl rfl hl.1 rfl (Nat.le_of_ble_eq_true rfl) dX1_countAll_145 ⟨Nat.le_of_ble_eq_true rfl, Nat.le_of_ble_eq_true rfl⟩) hP hD hS hA [0, 1, 2, 3, 4, 5, 6, 7, 8, 9, 10, 11, 12] [13, 14, 15, 16, 17, 18, 19, 20, 21, 22, 23, 24, 25, 26, 27, 28, 29, 30, 31, 32, 33] [21, 22, 23, 24, 25, 26, 27, 28, 29, 30, 31, 32, 33, 0, 1, 2, 3, 4, 5, 6, 7, 8, 9, 10, 11, 12, 13, 14, 15, 16, 17, 18, 19, 20] rfl rfl (by decide) (by decide) rfl (by decide) (fun H locs hP hD hS => ?_)
    exact B_148 k45 hk45 (kb_ph [(pa 0), (pa 1)]) _ _ _ _ _ _ _ _ hf hP hD hS (lv_sub hl [0, 1, 2, 3, 4] rfl)
  have B_127 : ∀ (k45 : Int32 → Int32 → Int32 → DealsT → RideT → Option (DealsT × RideT)) (hk45 : ∀ (ph : Nat → Nat) (v2 : Int32) (v3 : Int32) (v4 : Int32) (z0 : DealsT) (z1 : RideT) (H : Heap) (locs : List Loc) (ls : Array Slot), k45 v2 v3 v4 z0 z1 = some (u0, u1) → va_P D vwCl (w_Deals dA da (a 0) z0 ++ (w_Ride dA a (ph 0) (ph 1) z1 ++ (w_Plan dA pa pl))) H → va_D A (w_Deals dA da (a 0) z0 ++ (w_Ride dA a (ph 0) (ph 1) z1 ++ (w_Plan dA pa pl))) → va_S A s.heap H locs → lv_has ls 6 [(0, .ref (da 0)), (1, .ref (pa 0)), (2, .int v2), (3, .int v3), (4, .int v4)] → W p l e ({ frames := 6, cells := 0, slots := 0, locals := 149 } : Room) s m ([.ref (da 0), .ref (pa 0)] : List Value).toArray below meth c H locs 0 0 Q (F0 m 45 ls [])) (k105 : Int32 → Int32 → Int32 → Int32 → DealsT → RideT → Option (DealsT × RideT)) (hk105 : ∀ (ph : Nat → Nat) (v2 : Int32) (v3 : Int32) (v4 : Int32) (v5 : Int32) (z0 : DealsT) (z1 : RideT) (H : Heap) (locs : List Loc) (ls : Array Slot), k105 v2 v3 v4 v5 z0 z1 = some (u0, u1) → va_P D vwCl (w_Deals dA da (a 0) z0 ++ (w_Ride dA a (pa 0) (pa 1) z1 ++ (w_Plan dA pa pl))) H → va_D A (w_Deals dA da (a 0) z0 ++ (w_Ride dA a (pa 0) (pa 1) z1 ++ (w_Plan dA pa pl))) → va_S A s.heap H locs → lv_has ls 6 [(0, .ref (da 0)), (1, .ref (pa 0)), (2, .int v2), (3, .int v3), (4, .int v4), (5, .int v5)] → W p l e ({ frames := 6, cells := 0, slots := 0, locals := 149 } : Room) s m ([.ref (da 0), .ref (pa 0)] : List Value).toArray below meth c H locs 0 0 Q (F0 m 105 ls [])) (ph : Nat → Nat) (v2 : Int32) (v3 : Int32) (v4 : Int32) (v5 : Int32) (z0 : DealsT) (z1 : RideT) (H : Heap) (locs : List Loc) (ls : Array Slot), f_X1_countAll_b127 pl k45 k105 v2 v3 v4 v5 z0 z1 = some (u0, u1) → va_P D vwCl (w_Deals dA da (a 0) z0 ++ (w_Ride dA a (pa 0) (pa 1) z1 ++ (w_Plan dA pa pl))) H → va_D A (w_Deals dA da (a 0) z0 ++ (w_Ride dA a (pa 0) (pa 1) z1 ++ (w_Plan dA pa pl))) → va_S A s.heap H locs → lv_has ls 6 [(0, .ref (da 0)), (1, .ref (pa 0)), (2, .int v2), (3, .int v3), (4, .int v4), (5, .int v5)] → W p l e ({ frames := 6, cells := 0, slots := 0, locals := 149 } : Room) s m ([.ref (da 0), .ref (pa 0)] : List Value).toArray below meth c H locs 0 0 Q (F0 m 127 ls []) := by
    intro k45 hk45 k105 hk105 ph v2 v3 v4 v5 z0 z1 H locs ls hf hP hD hS hl
    rw [f_X1_countAll_b127] at hf
    refine lv_iinc (v := (v5 + (1 : Int32))) (lv' := [(5, .int (v5 + (1 : Int32))), (0, .ref (da 0)), (1, .ref (pa 0)), (2, .int v2), (3, .int v3), (4, .int v4)]) hx hb dX1_countAll_127 hl (k := 5) rfl (by rfl) (by decide) rfl (fun ls hl => ?_)
    refine lv_goto (tgt := 105) hx hb dX1_countAll_130 (by decide) ?_
    exact hk105 (kb_ph [(pa 0), (pa 1)]) _ _ _ _ _ _ _ _ _ hf hP hD hS (lv_sub hl [1, 2, 3, 4, 5, 0] rfl)
  have B_120 : ∀ (k45 : Int32 → Int32 → Int32 → DealsT → RideT → Option (DealsT × RideT)) (hk45 : ∀ (ph : Nat → Nat) (v2 : Int32) (v3 : Int32) (v4 : Int32) (z0 : DealsT) (z1 : RideT) (H : Heap) (locs : List Loc) (ls : Array Slot), k45 v2 v3 v4 z0 z1 = some (u0, u1) → va_P D vwCl (w_Deals dA da (a 0) z0 ++ (w_Ride dA a (ph 0) (ph 1) z1 ++ (w_Plan dA pa pl))) H → va_D A (w_Deals dA da (a 0) z0 ++ (w_Ride dA a (ph 0) (ph 1) z1 ++ (w_Plan dA pa pl))) → va_S A s.heap H locs → lv_has ls 6 [(0, .ref (da 0)), (1, .ref (pa 0)), (2, .int v2), (3, .int v3), (4, .int v4)] → W p l e ({ frames := 6, cells := 0, slots := 0, locals := 149 } : Room) s m ([.ref (da 0), .ref (pa 0)] : List Value).toArray below meth c H locs 0 0 Q (F0 m 45 ls [])) (k105 : Int32 → Int32 → Int32 → Int32 → DealsT → RideT → Option (DealsT × RideT)) (hk105 : ∀ (ph : Nat → Nat) (v2 : Int32) (v3 : Int32) (v4 : Int32) (v5 : Int32) (z0 : DealsT) (z1 : RideT) (H : Heap) (locs : List Loc) (ls : Array Slot), k105 v2 v3 v4 v5 z0 z1 = some (u0, u1) → va_P D vwCl (w_Deals dA da (a 0) z0 ++ (w_Ride dA a (pa 0) (pa 1) z1 ++ (w_Plan dA pa pl))) H → va_D A (w_Deals dA da (a 0) z0 ++ (w_Ride dA a (pa 0) (pa 1) z1 ++ (w_Plan dA pa pl))) → va_S A s.heap H locs → lv_has ls 6 [(0, .ref (da 0)), (1, .ref (pa 0)), (2, .int v2), (3, .int v3), (4, .int v4), (5, .int v5)] → W p l e ({ frames := 6, cells := 0, slots := 0, locals := 149 } : Room) s m ([.ref (da 0), .ref (pa 0)] : List Value).toArray below meth c H locs 0 0 Q (F0 m 105 ls [])) (ph : Nat → Nat) (v2 : Int32) (v3 : Int32) (v4 : Int32) (v5 : Int32) (z0 : DealsT) (z1 : RideT) (H : Heap) (locs : List Loc) (ls : Array Slot), f_X1_countAll_b120 pl k45 k105 v2 v3 v4 v5 z0 z1 = some (u0, u1) → va_P D vwCl (w_Deals dA da (a 0) z0 ++ (w_Ride dA a (pa 0) (pa 1) z1 ++ (w_Plan dA pa pl))) H → va_D A (w_Deals dA da (a 0) z0 ++ (w_Ride dA a (pa 0) (pa 1) z1 ++ (w_Plan dA pa pl))) → va_S A s.heap H locs → lv_has ls 6 [(0, .ref (da 0)), (1, .ref (pa 0)), (2, .int v2), (3, .int v3), (4, .int v4), (5, .int v5)] → W p l e ({ frames := 6, cells := 0, slots := 0, locals := 149 } : Room) s m ([.ref (da 0), .ref (pa 0)] : List Value).toArray below meth c H locs 0 0 Q (F0 m 120 ls []) := by
    intro k45 hk45 k105 hk105 ph v2 v3 v4 v5 z0 z1 H locs ls hf hP hD hS hl
    rw [f_X1_countAll_b120] at hf
    refine lv_aload_n hx hb dX1_countAll_120 rfl (lv_at hl 0 rfl) ?_
    refine va_get (D := D) (ci := 1) (v := .ref (a 0)) (C := RX1) (T := TX1) (N := 5) hx hb hts kb_inX1 hown hK.1 hP 0 rfl rfl 4 (by decide) (hK.2.w ww_2_140 rfl _) (fun _ h9 => h9) rfl dX1_countAll_121 ?_
    obtain ⟨r11, hc11, hf⟩ := kb_bind hf
    refine kb_cv (ws2 := (w_Deals dA da (a 0) z0 ++ (w_Ride dA a (pa 0) (pa 1) r11 ++ (w_Plan dA pa pl)))) (kb_rV (n := 0) (As := []) (rest := []) hx hb hml hown hK (c_X6_board l D dA H.size a pa z1 pl r11 hc11) ⟨ww_4_59, ww_5_29, ww_4_57, ww_4_58, ww_1_8, rfl, by decide, by decide⟩ rfl rfl (by decide +kernel) ⟨Nat.le_of_ble_eq_true rfl, Nat.le_of_ble_eq_true rfl⟩ hP hD hS hA hE [4, 5, 6, 7, 8, 9, 10, 11, 12, 13, 14, 15, 16, 17, 18, 19, 20, 21, 22, 23, 24, 25, 26, 27, 28, 29, 30, 31, 32, 33] rfl (by decide) 0 rfl rfl rfl hl.1 rfl (Nat.le_of_ble_eq_true rfl) dX1_countAll_124 ⟨Nat.le_of_ble_eq_true rfl, Nat.le_of_ble_eq_true rfl⟩) hP hD hS hA [4, 5, 6, 7, 8, 9, 10, 11, 12, 13, 14, 15, 16, 17, 18, 19, 20, 21, 22, 23, 24, 25, 26, 27, 28, 29, 30, 31, 32, 33] [0, 1, 2, 3] [0, 1, 2, 3, 4, 5, 6, 7, 8, 9, 10, 11, 12, 13, 14, 15, 16, 17, 18, 19, 20, 21, 22, 23, 24, 25, 26, 27, 28, 29, 30, 31, 32, 33] rfl rfl (by decide) (by decide) rfl (by decide) (fun H locs hP hD hS => ?_)
    exact B_127 k45 hk45 k105 hk105 (kb_ph [(pa 0), (pa 1)]) _ _ _ _ _ _ _ _ _ hf hP hD hS (lv_sub hl [0, 1, 2, 3, 4, 5] rfl)
  have B_105 : ∀ (k45 : Int32 → Int32 → Int32 → DealsT → RideT → Option (DealsT × RideT)) (hk45 : ∀ (ph : Nat → Nat) (v2 : Int32) (v3 : Int32) (v4 : Int32) (z0 : DealsT) (z1 : RideT) (H : Heap) (locs : List Loc) (ls : Array Slot), k45 v2 v3 v4 z0 z1 = some (u0, u1) → va_P D vwCl (w_Deals dA da (a 0) z0 ++ (w_Ride dA a (ph 0) (ph 1) z1 ++ (w_Plan dA pa pl))) H → va_D A (w_Deals dA da (a 0) z0 ++ (w_Ride dA a (ph 0) (ph 1) z1 ++ (w_Plan dA pa pl))) → va_S A s.heap H locs → lv_has ls 6 [(0, .ref (da 0)), (1, .ref (pa 0)), (2, .int v2), (3, .int v3), (4, .int v4)] → W p l e ({ frames := 6, cells := 0, slots := 0, locals := 149 } : Room) s m ([.ref (da 0), .ref (pa 0)] : List Value).toArray below meth c H locs 0 0 Q (F0 m 45 ls [])) (n : Nat) (ph : Nat → Nat) (v2 : Int32) (v3 : Int32) (v4 : Int32) (v5 : Int32) (z0 : DealsT) (z1 : RideT) (H : Heap) (locs : List Loc) (ls : Array Slot), f_X1_countAll_b105 pl k45 n v2 v3 v4 v5 z0 z1 = some (u0, u1) → va_P D vwCl (w_Deals dA da (a 0) z0 ++ (w_Ride dA a (pa 0) (pa 1) z1 ++ (w_Plan dA pa pl))) H → va_D A (w_Deals dA da (a 0) z0 ++ (w_Ride dA a (pa 0) (pa 1) z1 ++ (w_Plan dA pa pl))) → va_S A s.heap H locs → lv_has ls 6 [(0, .ref (da 0)), (1, .ref (pa 0)), (2, .int v2), (3, .int v3), (4, .int v4), (5, .int v5)] → W p l e ({ frames := 6, cells := 0, slots := 0, locals := 149 } : Room) s m ([.ref (da 0), .ref (pa 0)] : List Value).toArray below meth c H locs 0 0 Q (F0 m 105 ls []) := by
    intro k45 hk45 n
    induction n with
    | zero =>
      intro ph v2 v3 v4 v5 z0 z1 H locs ls hf
      exact absurd hf (by simp [f_X1_countAll_b105])
    | succ n ih =>
      intro ph v2 v3 v4 v5 z0 z1 H locs ls hf hP hD hS hl
      rw [f_X1_countAll_b105] at hf
      refine lv_iload hx hb dX1_countAll_105 (lv_at hl 5 rfl) ?_
      refine lv_bipush (v := (12 : Int32)) hx hb dX1_countAll_107 (by decide) ?_
      refine lv_icmp_ge (tgt := 133) hx hb dX1_countAll_109 (by decide) (fun c_6 => ?_) (fun c_6 => ?_)
      · rw [if_pos c_6] at hf
        refine lv_aload_n hx hb dX1_countAll_133 rfl (lv_at hl 0 rfl) ?_
        refine lv_iload_n hx hb dX1_countAll_134 rfl (lv_at hl 2 rfl) ?_
        refine lv_iload hx hb dX1_countAll_135 (lv_at hl 4 rfl) ?_
        refine lv_if_ne (tgt := 144) hx hb dX1_countAll_137 (by decide) (fun c_7 => ?_) (fun c_7 => ?_)
        · rw [if_neg c_7] at hf
          refine lv_iconst (v := (0 : Int32)) hx hb dX1_countAll_144 (by decide) ?_
          exact B_145 k45 hk45 (kb_ph [(pa 0), (pa 1)]) _ _ _ _ _ _ _ _ _ _ hf hP hD hS (lv_sub hl [0, 1, 2, 3, 4] rfl)
        · rw [if_pos c_7] at hf
          refine lv_iconst (v := (1 : Int32)) hx hb dX1_countAll_140 (by decide) ?_
          refine lv_goto (tgt := 145) hx hb dX1_countAll_141 (by decide) ?_
          exact B_145 k45 hk45 (kb_ph [(pa 0), (pa 1)]) _ _ _ _ _ _ _ _ _ _ hf hP hD hS (lv_sub hl [0, 1, 2, 3, 4] rfl)
      · rw [if_neg c_6] at hf
        refine lv_aload_n hx hb dX1_countAll_112 rfl (lv_at hl 0 rfl) ?_
        refine va_get (D := D) (ci := 1) (v := .ref (a 0)) (C := RX1) (T := TX1) (N := 5) hx hb hts kb_inX1 hown hK.1 hP 0 rfl rfl 4 (by decide) (hK.2.w ww_2_140 rfl _) (fun _ h9 => h9) rfl dX1_countAll_113 ?_
        obtain ⟨r10, hc10, hf⟩ := kb_bind hf
        refine kb_ci (ws2 := (w_Deals dA da (a 0) z0 ++ (w_Ride dA a (pa 0) (pa 1) r10.2 ++ (w_Plan dA pa pl)))) (kb_rV (n := 0) (As := []) (rest := []) hx hb hml hown hK (c_X6_halt l D dA H.size a pa z1 pl r10.1 r10.2 hc10) ⟨ww_3_200, ww_5_28, ww_3_198, ww_3_199, ww_1_8, rfl, by decide, by decide⟩ rfl rfl (by decide +kernel) ⟨Nat.le_of_ble_eq_true rfl, Nat.le_of_ble_eq_true rfl⟩ hP hD hS hA hE [4, 5, 6, 7, 8, 9, 10, 11, 12, 13, 14, 15, 16, 17, 18, 19, 20, 21, 22, 23, 24, 25, 26, 27, 28, 29, 30, 31, 32, 33] rfl (by decide) 0 rfl rfl rfl hl.1 rfl (Nat.le_of_ble_eq_true rfl) dX1_countAll_116 ⟨Nat.le_of_ble_eq_true rfl, Nat.le_of_ble_eq_true rfl⟩) hP hD hS hA [4, 5, 6, 7, 8, 9, 10, 11, 12, 13, 14, 15, 16, 17, 18, 19, 20, 21, 22, 23, 24, 25, 26, 27, 28, 29, 30, 31, 32, 33] [0, 1, 2, 3] [0, 1, 2, 3, 4, 5, 6, 7, 8, 9, 10, 11, 12, 13, 14, 15, 16, 17, 18, 19, 20, 21, 22, 23, 24, 25, 26, 27, 28, 29, 30, 31, 32, 33] rfl rfl (by decide) (by decide) rfl (by decide) (fun H locs hP hD hS => ?_)
        refine lv_pop hx hb dX1_countAll_119 rfl ?_
        exact B_120 k45 hk45 (f_X1_countAll_b105 pl k45 n) ih (kb_ph [(pa 0), (pa 1)]) _ _ _ _ _ _ _ _ _ hf hP hD hS (lv_sub hl [0, 1, 2, 3, 4, 5] rfl)
  have B_96 : ∀ (k45 : Int32 → Int32 → Int32 → DealsT → RideT → Option (DealsT × RideT)) (hk45 : ∀ (ph : Nat → Nat) (v2 : Int32) (v3 : Int32) (v4 : Int32) (z0 : DealsT) (z1 : RideT) (H : Heap) (locs : List Loc) (ls : Array Slot), k45 v2 v3 v4 z0 z1 = some (u0, u1) → va_P D vwCl (w_Deals dA da (a 0) z0 ++ (w_Ride dA a (ph 0) (ph 1) z1 ++ (w_Plan dA pa pl))) H → va_D A (w_Deals dA da (a 0) z0 ++ (w_Ride dA a (ph 0) (ph 1) z1 ++ (w_Plan dA pa pl))) → va_S A s.heap H locs → lv_has ls 6 [(0, .ref (da 0)), (1, .ref (pa 0)), (2, .int v2), (3, .int v3), (4, .int v4)] → W p l e ({ frames := 6, cells := 0, slots := 0, locals := 149 } : Room) s m ([.ref (da 0), .ref (pa 0)] : List Value).toArray below meth c H locs 0 0 Q (F0 m 45 ls [])) (k62 : Int32 → Int32 → Int32 → Int32 → DealsT → RideT → Option (DealsT × RideT)) (hk62 : ∀ (ph : Nat → Nat) (v2 : Int32) (v3 : Int32) (v4 : Int32) (v5 : Int32) (z0 : DealsT) (z1 : RideT) (H : Heap) (locs : List Loc) (ls : Array Slot), k62 v2 v3 v4 v5 z0 z1 = some (u0, u1) → va_P D vwCl (w_Deals dA da (a 0) z0 ++ (w_Ride dA a (pa 0) (pa 1) z1 ++ (w_Plan dA pa pl))) H → va_D A (w_Deals dA da (a 0) z0 ++ (w_Ride dA a (pa 0) (pa 1) z1 ++ (w_Plan dA pa pl))) → va_S A s.heap H locs → lv_has ls 6 [(0, .ref (da 0)), (1, .ref (pa 0)), (2, .int v2), (3, .int v3), (4, .int v4), (5, .int v5)] → W p l e ({ frames := 6, cells := 0, slots := 0, locals := 149 } : Room) s m ([.ref (da 0), .ref (pa 0)] : List Value).toArray below meth c H locs 0 0 Q (F0 m 62 ls [])) (ph : Nat → Nat) (v2 : Int32) (v3 : Int32) (v4 : Int32) (v5 : Int32) (z0 : DealsT) (z1 : RideT) (H : Heap) (locs : List Loc) (ls : Array Slot), f_X1_countAll_b96 pl k45 k62 v2 v3 v4 v5 z0 z1 = some (u0, u1) → va_P D vwCl (w_Deals dA da (a 0) z0 ++ (w_Ride dA a (pa 0) (pa 1) z1 ++ (w_Plan dA pa pl))) H → va_D A (w_Deals dA da (a 0) z0 ++ (w_Ride dA a (pa 0) (pa 1) z1 ++ (w_Plan dA pa pl))) → va_S A s.heap H locs → lv_has ls 6 [(0, .ref (da 0)), (1, .ref (pa 0)), (2, .int v2), (3, .int v3), (4, .int v4), (5, .int v5)] → W p l e ({ frames := 6, cells := 0, slots := 0, locals := 149 } : Room) s m ([.ref (da 0), .ref (pa 0)] : List Value).toArray below meth c H locs 0 0 Q (F0 m 96 ls []) := by
    intro k45 hk45 k62 hk62 ph v2 v3 v4 v5 z0 z1 H locs ls hf hP hD hS hl
    rw [f_X1_countAll_b96] at hf
    refine lv_iinc (v := (v5 + (1 : Int32))) (lv' := [(5, .int (v5 + (1 : Int32))), (0, .ref (da 0)), (1, .ref (pa 0)), (2, .int v2), (3, .int v3), (4, .int v4)]) hx hb dX1_countAll_96 hl (k := 5) rfl (by rfl) (by decide) rfl (fun ls hl => ?_)
    refine lv_goto (tgt := 62) hx hb dX1_countAll_99 (by decide) ?_
    exact hk62 (kb_ph [(pa 0), (pa 1)]) _ _ _ _ _ _ _ _ _ hf hP hD hS (lv_sub hl [1, 2, 3, 4, 5, 0] rfl)
  have B_62 : ∀ (k45 : Int32 → Int32 → Int32 → DealsT → RideT → Option (DealsT × RideT)) (hk45 : ∀ (ph : Nat → Nat) (v2 : Int32) (v3 : Int32) (v4 : Int32) (z0 : DealsT) (z1 : RideT) (H : Heap) (locs : List Loc) (ls : Array Slot), k45 v2 v3 v4 z0 z1 = some (u0, u1) → va_P D vwCl (w_Deals dA da (a 0) z0 ++ (w_Ride dA a (ph 0) (ph 1) z1 ++ (w_Plan dA pa pl))) H → va_D A (w_Deals dA da (a 0) z0 ++ (w_Ride dA a (ph 0) (ph 1) z1 ++ (w_Plan dA pa pl))) → va_S A s.heap H locs → lv_has ls 6 [(0, .ref (da 0)), (1, .ref (pa 0)), (2, .int v2), (3, .int v3), (4, .int v4)] → W p l e ({ frames := 6, cells := 0, slots := 0, locals := 149 } : Room) s m ([.ref (da 0), .ref (pa 0)] : List Value).toArray below meth c H locs 0 0 Q (F0 m 45 ls [])) (n : Nat) (ph : Nat → Nat) (v2 : Int32) (v3 : Int32) (v4 : Int32) (v5 : Int32) (z0 : DealsT) (z1 : RideT) (H : Heap) (locs : List Loc) (ls : Array Slot), f_X1_countAll_b62 pl k45 n v2 v3 v4 v5 z0 z1 = some (u0, u1) → va_P D vwCl (w_Deals dA da (a 0) z0 ++ (w_Ride dA a (pa 0) (pa 1) z1 ++ (w_Plan dA pa pl))) H → va_D A (w_Deals dA da (a 0) z0 ++ (w_Ride dA a (pa 0) (pa 1) z1 ++ (w_Plan dA pa pl))) → va_S A s.heap H locs → lv_has ls 6 [(0, .ref (da 0)), (1, .ref (pa 0)), (2, .int v2), (3, .int v3), (4, .int v4), (5, .int v5)] → W p l e ({ frames := 6, cells := 0, slots := 0, locals := 149 } : Room) s m ([.ref (da 0), .ref (pa 0)] : List Value).toArray below meth c H locs 0 0 Q (F0 m 62 ls []) := by
    intro k45 hk45 n
    induction n with
    | zero =>
      intro ph v2 v3 v4 v5 z0 z1 H locs ls hf
      exact absurd hf (by simp [f_X1_countAll_b62])
    | succ n ih =>
      intro ph v2 v3 v4 v5 z0 z1 H locs ls hf hP hD hS hl
      rw [f_X1_countAll_b62] at hf
      refine lv_iload hx hb dX1_countAll_62 (lv_at hl 5 rfl) ?_
      refine lv_iload_n hx hb dX1_countAll_64 rfl (lv_at hl 2 rfl) ?_
      refine lv_icmp_ge (tgt := 102) hx hb dX1_countAll_65 (by decide) (fun c_5 => ?_) (fun c_5 => ?_)
      · rw [if_pos c_5] at hf
        refine lv_iconst (v := (0 : Int32)) hx hb dX1_countAll_102 (by decide) ?_
        refine lv_istore (lv' := [(5, .int (0 : Int32)), (0, .ref (da 0)), (1, .ref (pa 0)), (2, .int v2), (3, .int v3), (4, .int v4)]) hx hb dX1_countAll_103 hl (by decide) rfl (fun ls hl => ?_)
        exact B_105 k45 hk45 4096 (kb_ph [(pa 0), (pa 1)]) _ _ _ _ _ _ _ _ _ hf hP hD hS (lv_sub hl [1, 2, 3, 4, 5, 0] rfl)
      · rw [if_neg c_5] at hf
        refine lv_aload_n hx hb dX1_countAll_68 rfl (lv_at hl 0 rfl) ?_
        refine va_get (D := D) (ci := 1) (v := .ref (a 0)) (C := RX1) (T := TX1) (N := 5) hx hb hts kb_inX1 hown hK.1 hP 0 rfl rfl 4 (by decide) (hK.2.w ww_2_140 rfl _) (fun _ h9 => h9) rfl dX1_countAll_69 ?_
        refine va_get (D := D) (ci := 6) (v := .ref (a 1)) (C := RX6) (T := TX6) (N := 11) hx hb hts kb_inX6 hown hK.1 hP 4 rfl rfl 1 (by decide) (hK.2.w ww_2_68 rfl _) (fun _ h9 => h9) rfl dX1_countAll_72 ?_
        refine va_get (D := D) (ci := 9) (v := .ref (a 3)) (C := RX9) (T := TX9) (N := 3) hx hb hts kb_inX9 hown hK.1 hP 5 rfl rfl 1 (by decide) (hK.2.w ww_2_57 rfl _) (fun _ h9 => h9) rfl dX1_countAll_75 ?_
        refine lv_iload hx hb dX1_countAll_78 (lv_at hl 5 rfl) ?_
        refine lv_aload_n hx hb dX1_countAll_80 rfl (lv_at hl 1 rfl) ?_
        refine va_get (D := D) (ci := 5) (v := .ref (pa 12)) (C := RX5) (T := TX5) (N := 8) hx hb hts kb_inX5 hown hK.1 hP 13 rfl rfl 2 (by decide) (hK.2.w ww_1_224 rfl _) (fun _ h9 => h9) rfl dX1_countAll_81 ?_
        refine lv_aload_n hx hb dX1_countAll_84 rfl (lv_at hl 0 rfl) ?_
        refine va_get (D := D) (ci := 1) (v := .ref (da 3)) (C := RX1) (T := TX1) (N := 5) hx hb hts kb_inX1 hown hK.1 hP 0 rfl rfl 3 (by decide) (hK.2.w ww_2_139 rfl _) (fun _ h9 => h9) rfl dX1_countAll_85 ?_
        refine lv_iload hx hb dX1_countAll_88 (lv_at hl 5 rfl) ?_
        obtain ⟨h_12, hf⟩ := kb_if hf
        refine va_iald (D := D) hx hb hK.1 hP 3 0 rfl rfl h_12 dX1_countAll_90 ?_
        obtain ⟨h_13, hf⟩ := kb_if hf
        refine va_aldq (D := D) hx hb hK.1 hP 25 5 rfl rfl h_13 dX1_countAll_91 ?_
        show W p l e ({ frames := 6, cells := 0, slots := 0, locals := 149 } : Room) s m ([.ref (da 0), .ref (pa 0)] : List Value).toArray below meth c _ _ 0 0 Q (F0 m 92 _ [.ref (pa (13 + (((de_hand z0) (v5).toNatClampNeg)).toNatClampNeg)), .int v5, .ref (a 3)])
        refine va_get (D := D) (ci := 7) (v := .int ((qr_looks (pl_riders pl)) (((de_hand z0) (v5).toNatClampNeg)).toNatClampNeg)) (C := RX7) (T := TX7) (N := 10) hx hb hts kb_inX7 hown hK.1 hP (4 + (9 + (13 + (((de_hand z0) (v5).toNatClampNeg)).toNatClampNeg))) (kb_at rfl (kb_at rfl (at_Plan_13 dA pa pl (((de_hand z0) (v5).toNatClampNeg)).toNatClampNeg (kb_inlt h_13)))) rfl 4 (by decide) (hK.2.w ww_1_174 rfl _) (fun _ h9 => h9) rfl dX1_countAll_92 ?_
        obtain ⟨h_14, hf⟩ := kb_if hf
        refine va_iast (D := D) hx hb hK.1 hP hD hS 7 0 rfl rfl h_14 dX1_countAll_95 (fun H locs hP hD hS => ?_)
        have hP : va_P D vwCl (w_Deals dA da (a 0) z0 ++ (w_Ride dA a (pa 0) (pa 1) (rd_set_scene z1 (sc_set_looks (rd_scene z1) (upd (sc_looks (rd_scene z1)) (v5).toNatClampNeg ((qr_looks (pl_riders pl)) (((de_hand z0) (v5).toNatClampNeg)).toNatClampNeg)))) ++ (w_Plan dA pa pl))) H := hP
        have hD : va_D A (w_Deals dA da (a 0) z0 ++ (w_Ride dA a (pa 0) (pa 1) (rd_set_scene z1 (sc_set_looks (rd_scene z1) (upd (sc_looks (rd_scene z1)) (v5).toNatClampNeg ((qr_looks (pl_riders pl)) (((de_hand z0) (v5).toNatClampNeg)).toNatClampNeg)))) ++ (w_Plan dA pa pl))) := hD
        exact B_96 k45 hk45 (f_X1_countAll_b62 pl k45 n) ih (kb_ph [(pa 0), (pa 1)]) _ _ _ _ _ _ _ _ _ hf hP hD hS (lv_sub hl [0, 1, 2, 3, 4, 5] rfl)
  have B_59 : ∀ (k45 : Int32 → Int32 → Int32 → DealsT → RideT → Option (DealsT × RideT)) (hk45 : ∀ (ph : Nat → Nat) (v2 : Int32) (v3 : Int32) (v4 : Int32) (z0 : DealsT) (z1 : RideT) (H : Heap) (locs : List Loc) (ls : Array Slot), k45 v2 v3 v4 z0 z1 = some (u0, u1) → va_P D vwCl (w_Deals dA da (a 0) z0 ++ (w_Ride dA a (ph 0) (ph 1) z1 ++ (w_Plan dA pa pl))) H → va_D A (w_Deals dA da (a 0) z0 ++ (w_Ride dA a (ph 0) (ph 1) z1 ++ (w_Plan dA pa pl))) → va_S A s.heap H locs → lv_has ls 6 [(0, .ref (da 0)), (1, .ref (pa 0)), (2, .int v2), (3, .int v3), (4, .int v4)] → W p l e ({ frames := 6, cells := 0, slots := 0, locals := 149 } : Room) s m ([.ref (da 0), .ref (pa 0)] : List Value).toArray below meth c H locs 0 0 Q (F0 m 45 ls [])) (ph : Nat → Nat) (v2 : Int32) (v3 : Int32) (v4 : Int32) (z0 : DealsT) (z1 : RideT) (H : Heap) (locs : List Loc) (ls : Array Slot), f_X1_countAll_b59 pl k45 v2 v3 v4 z0 z1 = some (u0, u1) → va_P D vwCl (w_Deals dA da (a 0) z0 ++ (w_Ride dA a (pa 0) (pa 1) z1 ++ (w_Plan dA pa pl))) H → va_D A (w_Deals dA da (a 0) z0 ++ (w_Ride dA a (pa 0) (pa 1) z1 ++ (w_Plan dA pa pl))) → va_S A s.heap H locs → lv_has ls 6 [(0, .ref (da 0)), (1, .ref (pa 0)), (2, .int v2), (3, .int v3), (4, .int v4)] → W p l e ({ frames := 6, cells := 0, slots := 0, locals := 149 } : Room) s m ([.ref (da 0), .ref (pa 0)] : List Value).toArray below meth c H locs 0 0 Q (F0 m 59 ls []) := by
    intro k45 hk45 ph v2 v3 v4 z0 z1 H locs ls hf hP hD hS hl
    rw [f_X1_countAll_b59] at hf
    refine lv_iconst (v := (0 : Int32)) hx hb dX1_countAll_59 (by decide) ?_
    refine lv_istore (lv' := [(5, .int (0 : Int32)), (0, .ref (da 0)), (1, .ref (pa 0)), (2, .int v2), (3, .int v3), (4, .int v4)]) hx hb dX1_countAll_60 hl (by decide) rfl (fun ls hl => ?_)
    exact B_62 k45 hk45 4096 (kb_ph [(pa 0), (pa 1)]) _ _ _ _ _ _ _ _ _ hf hP hD hS (lv_sub hl [1, 2, 3, 4, 5, 0] rfl)
  have B_45 : ∀ (n : Nat) (ph : Nat → Nat) (v2 : Int32) (v3 : Int32) (v4 : Int32) (z0 : DealsT) (z1 : RideT) (H : Heap) (locs : List Loc) (ls : Array Slot), f_X1_countAll_b45 pl n v2 v3 v4 z0 z1 = some (u0, u1) → va_P D vwCl (w_Deals dA da (a 0) z0 ++ (w_Ride dA a (ph 0) (ph 1) z1 ++ (w_Plan dA pa pl))) H → va_D A (w_Deals dA da (a 0) z0 ++ (w_Ride dA a (ph 0) (ph 1) z1 ++ (w_Plan dA pa pl))) → va_S A s.heap H locs → lv_has ls 6 [(0, .ref (da 0)), (1, .ref (pa 0)), (2, .int v2), (3, .int v3), (4, .int v4)] → W p l e ({ frames := 6, cells := 0, slots := 0, locals := 149 } : Room) s m ([.ref (da 0), .ref (pa 0)] : List Value).toArray below meth c H locs 0 0 Q (F0 m 45 ls []) := by
    intro n
    induction n with
    | zero =>
      intro ph v2 v3 v4 z0 z1 H locs ls hf
      exact absurd hf (by simp [f_X1_countAll_b45])
    | succ n ih =>
      intro ph v2 v3 v4 z0 z1 H locs ls hf hP hD hS hl
      rw [f_X1_countAll_b45] at hf
      refine lv_iload hx hb dX1_countAll_45 (lv_at hl 4 rfl) ?_
      refine lv_iload_n hx hb dX1_countAll_47 rfl (lv_at hl 3 rfl) ?_
      refine lv_icmp_ge (tgt := 159) hx hb dX1_countAll_48 (by decide) (fun c_3 => ?_) (fun c_3 => ?_)
      · rw [if_pos c_3] at hf
        refine lv_aload_n hx hb dX1_countAll_159 rfl (lv_at hl 0 rfl) ?_
        refine lv_iconst (v := (1 : Int32)) hx hb dX1_countAll_160 (by decide) ?_
        refine va_put (D := D) (ci := 1) (v := .int (1 : Int32)) (ty := .boolean) (C := RX1) (T := TX1) (N := 5) hx hb hts kb_inX1 tyX1 tyX1_ok nmX1 hown hK.1 hP hD hS 0 rfl rfl 0 (by decide) (hK.2.w ww_2_133 rfl _) (fun _ h9 => h9) rfl (by decide +kernel) rfl rfl (Nat.le_of_ble_eq_true rfl) dX1_countAll_161 (fun H locs hP hD hS => ?_)
        have hP : va_P D vwCl (w_Deals dA da (a 0) (de_set_counted z0 (1 : Int32)) ++ (w_Ride dA a (ph 0) (ph 1) z1 ++ (w_Plan dA pa pl))) H := hP
        have hD : va_D A (w_Deals dA da (a 0) (de_set_counted z0 (1 : Int32)) ++ (w_Ride dA a (ph 0) (ph 1) z1 ++ (w_Plan dA pa pl))) := hD
        exact B_164 (kb_ph [(ph 0), (ph 1)]) _ _ _ _ _ hf hP hD hS (lv_sub hl [] rfl)
      · rw [if_neg c_3] at hf
        refine lv_aload_n hx hb dX1_countAll_51 rfl (lv_at hl 0 rfl) ?_
        refine va_get (D := D) (ci := 1) (v := .ref (a 0)) (C := RX1) (T := TX1) (N := 5) hx hb hts kb_inX1 hown hK.1 hP 0 rfl rfl 4 (by decide) (hK.2.w ww_2_140 rfl _) (fun _ h9 => h9) rfl dX1_countAll_52 ?_
        refine lv_aload_n hx hb dX1_countAll_55 rfl (lv_at hl 1 rfl) ?_
        obtain ⟨r4, hc4, hf⟩ := kb_bind hf
        refine kb_cv (ws2 := (w_Deals dA da (a 0) z0 ++ (w_Ride dA a (pa 0) (pa 1) r4 ++ (w_Plan dA pa pl)))) (kb_rV (n := 1) (As := [.ref (pa 0)]) (rest := []) hx hb hml hown hK (c_X6_begin l D dA H.size a pa (ph 0) (ph 1) z1 pl r4 hc4) ⟨ww_3_176, ww_5_27, ww_3_174, ww_3_175, ww_1_8, rfl, by decide, by decide⟩ rfl rfl (by decide +kernel) ⟨Nat.le_of_ble_eq_true rfl, Nat.le_of_ble_eq_true rfl⟩ hP hD hS hA hE [4, 5, 6, 7, 8, 9, 10, 11, 12, 13, 14, 15, 16, 17, 18, 19, 20, 21, 22, 23, 24, 25, 26, 27, 28, 29, 30, 31, 32, 33] rfl (by decide) 0 rfl rfl rfl hl.1 rfl (Nat.le_of_ble_eq_true rfl) dX1_countAll_56 ⟨Nat.le_of_ble_eq_true rfl, Nat.le_of_ble_eq_true rfl⟩) hP hD hS hA [4, 5, 6, 7, 8, 9, 10, 11, 12, 13, 14, 15, 16, 17, 18, 19, 20, 21, 22, 23, 24, 25, 26, 27, 28, 29, 30, 31, 32, 33] [0, 1, 2, 3] [0, 1, 2, 3, 4, 5, 6, 7, 8, 9, 10, 11, 12, 13, 14, 15, 16, 17, 18, 19, 20, 21, 22, 23, 24, 25, 26, 27, 28, 29, 30, 31, 32, 33] rfl rfl (by decide) (by decide) rfl (by decide) (fun H locs hP hD hS => ?_)
        exact B_59 (f_X1_countAll_b45 pl n) ih (kb_ph [(pa 0), (pa 1)]) _ _ _ _ _ _ _ _ hf hP hD hS (lv_sub hl [0, 1, 2, 3, 4] rfl)
  have B_31 : ∀ (k12 : Int32 → Int32 → DealsT → RideT → Option (DealsT × RideT)) (hk12 : ∀ (ph : Nat → Nat) (v2 : Int32) (v3 : Int32) (z0 : DealsT) (z1 : RideT) (H : Heap) (locs : List Loc) (ls : Array Slot), k12 v2 v3 z0 z1 = some (u0, u1) → va_P D vwCl (w_Deals dA da (a 0) z0 ++ (w_Ride dA a (ph 0) (ph 1) z1 ++ (w_Plan dA pa pl))) H → va_D A (w_Deals dA da (a 0) z0 ++ (w_Ride dA a (ph 0) (ph 1) z1 ++ (w_Plan dA pa pl))) → va_S A s.heap H locs → lv_has ls 6 [(0, .ref (da 0)), (1, .ref (pa 0)), (2, .int v2), (3, .int v3)] → W p l e ({ frames := 6, cells := 0, slots := 0, locals := 149 } : Room) s m ([.ref (da 0), .ref (pa 0)] : List Value).toArray below meth c H locs 0 0 Q (F0 m 12 ls [])) (ph : Nat → Nat) (v2 : Int32) (v3 : Int32) (z0 : DealsT) (z1 : RideT) (H : Heap) (locs : List Loc) (ls : Array Slot), f_X1_countAll_b31 pl k12 v2 v3 z0 z1 = some (u0, u1) → va_P D vwCl (w_Deals dA da (a 0) z0 ++ (w_Ride dA a (ph 0) (ph 1) z1 ++ (w_Plan dA pa pl))) H → va_D A (w_Deals dA da (a 0) z0 ++ (w_Ride dA a (ph 0) (ph 1) z1 ++ (w_Plan dA pa pl))) → va_S A s.heap H locs → lv_has ls 6 [(0, .ref (da 0)), (1, .ref (pa 0)), (2, .int v2), (3, .int v3)] → W p l e ({ frames := 6, cells := 0, slots := 0, locals := 149 } : Room) s m ([.ref (da 0), .ref (pa 0)] : List Value).toArray below meth c H locs 0 0 Q (F0 m 31 ls []) := by
    intro k12 hk12 ph v2 v3 z0 z1 H locs ls hf hP hD hS hl
    rw [f_X1_countAll_b31] at hf
    refine lv_iinc (v := (v3 + (1 : Int32))) (lv' := [(3, .int (v3 + (1 : Int32))), (0, .ref (da 0)), (1, .ref (pa 0)), (2, .int v2)]) hx hb dX1_countAll_31 hl (k := 3) rfl (by rfl) (by decide) rfl (fun ls hl => ?_)
    refine lv_goto (tgt := 12) hx hb dX1_countAll_34 (by decide) ?_
    exact hk12 (kb_ph [(ph 0), (ph 1)]) _ _ _ _ _ _ _ hf hP hD hS (lv_sub hl [1, 2, 3, 0] rfl)
  have B_24 : ∀ (k12 : Int32 → Int32 → DealsT → RideT → Option (DealsT × RideT)) (hk12 : ∀ (ph : Nat → Nat) (v2 : Int32) (v3 : Int32) (z0 : DealsT) (z1 : RideT) (H : Heap) (locs : List Loc) (ls : Array Slot), k12 v2 v3 z0 z1 = some (u0, u1) → va_P D vwCl (w_Deals dA da (a 0) z0 ++ (w_Ride dA a (ph 0) (ph 1) z1 ++ (w_Plan dA pa pl))) H → va_D A (w_Deals dA da (a 0) z0 ++ (w_Ride dA a (ph 0) (ph 1) z1 ++ (w_Plan dA pa pl))) → va_S A s.heap H locs → lv_has ls 6 [(0, .ref (da 0)), (1, .ref (pa 0)), (2, .int v2), (3, .int v3)] → W p l e ({ frames := 6, cells := 0, slots := 0, locals := 149 } : Room) s m ([.ref (da 0), .ref (pa 0)] : List Value).toArray below meth c H locs 0 0 Q (F0 m 12 ls [])) (ph : Nat → Nat) (v2 : Int32) (v3 : Int32) (z0 : DealsT) (z1 : RideT) (H : Heap) (locs : List Loc) (ls : Array Slot), f_X1_countAll_b24 pl k12 v2 v3 z0 z1 = some (u0, u1) → va_P D vwCl (w_Deals dA da (a 0) z0 ++ (w_Ride dA a (ph 0) (ph 1) z1 ++ (w_Plan dA pa pl))) H → va_D A (w_Deals dA da (a 0) z0 ++ (w_Ride dA a (ph 0) (ph 1) z1 ++ (w_Plan dA pa pl))) → va_S A s.heap H locs → lv_has ls 6 [(0, .ref (da 0)), (1, .ref (pa 0)), (2, .int v2), (3, .int v3)] → W p l e ({ frames := 6, cells := 0, slots := 0, locals := 149 } : Room) s m ([.ref (da 0), .ref (pa 0)] : List Value).toArray below meth c H locs 0 0 Q (F0 m 24 ls []) := by
    intro k12 hk12 ph v2 v3 z0 z1 H locs ls hf hP hD hS hl
    rw [f_X1_countAll_b24] at hf
    refine lv_aload_n hx hb dX1_countAll_24 rfl (lv_at hl 0 rfl) ?_
    refine va_get (D := D) (ci := 1) (v := .ref (da 2)) (C := RX1) (T := TX1) (N := 5) hx hb hts kb_inX1 hown hK.1 hP 0 rfl rfl 2 (by decide) (hK.2.w ww_2_137 rfl _) (fun _ h9 => h9) rfl dX1_countAll_25 ?_
    refine lv_iload_n hx hb dX1_countAll_28 rfl (lv_at hl 3 rfl) ?_
    refine lv_iconst (v := (0 : Int32)) hx hb dX1_countAll_29 (by decide) ?_
    obtain ⟨h_16, hf⟩ := kb_if hf
    refine va_iast (D := D) hx hb hK.1 hP hD hS 2 0 rfl rfl h_16 dX1_countAll_30 (fun H locs hP hD hS => ?_)
    have hP : va_P D vwCl (w_Deals dA da (a 0) (de_set_asMuch z0 (upd (de_asMuch z0) (v3).toNatClampNeg (0 : Int32))) ++ (w_Ride dA a (ph 0) (ph 1) z1 ++ (w_Plan dA pa pl))) H := hP
    have hD : va_D A (w_Deals dA da (a 0) (de_set_asMuch z0 (upd (de_asMuch z0) (v3).toNatClampNeg (0 : Int32))) ++ (w_Ride dA a (ph 0) (ph 1) z1 ++ (w_Plan dA pa pl))) := hD
    exact B_31 k12 hk12 (kb_ph [(ph 0), (ph 1)]) _ _ _ _ _ _ _ hf hP hD hS (lv_sub hl [0, 1, 2, 3] rfl)
  have B_12 : ∀ (n : Nat) (ph : Nat → Nat) (v2 : Int32) (v3 : Int32) (z0 : DealsT) (z1 : RideT) (H : Heap) (locs : List Loc) (ls : Array Slot), f_X1_countAll_b12 pl n v2 v3 z0 z1 = some (u0, u1) → va_P D vwCl (w_Deals dA da (a 0) z0 ++ (w_Ride dA a (ph 0) (ph 1) z1 ++ (w_Plan dA pa pl))) H → va_D A (w_Deals dA da (a 0) z0 ++ (w_Ride dA a (ph 0) (ph 1) z1 ++ (w_Plan dA pa pl))) → va_S A s.heap H locs → lv_has ls 6 [(0, .ref (da 0)), (1, .ref (pa 0)), (2, .int v2), (3, .int v3)] → W p l e ({ frames := 6, cells := 0, slots := 0, locals := 149 } : Room) s m ([.ref (da 0), .ref (pa 0)] : List Value).toArray below meth c H locs 0 0 Q (F0 m 12 ls []) := by
    intro n
    induction n with
    | zero =>
      intro ph v2 v3 z0 z1 H locs ls hf
      exact absurd hf (by simp [f_X1_countAll_b12])
    | succ n ih =>
      intro ph v2 v3 z0 z1 H locs ls hf hP hD hS hl
      rw [f_X1_countAll_b12] at hf
      refine lv_iload_n hx hb dX1_countAll_12 rfl (lv_at hl 3 rfl) ?_
      refine lv_iload_n hx hb dX1_countAll_13 rfl (lv_at hl 2 rfl) ?_
      refine lv_icmp_ge (tgt := 37) hx hb dX1_countAll_14 (by decide) (fun c_1 => ?_) (fun c_1 => ?_)
      · rw [if_pos c_1] at hf
        refine lv_iload_n hx hb dX1_countAll_37 rfl (lv_at hl 2 rfl) ?_
        obtain ⟨r2, hc2, hf⟩ := kb_bind hf
        refine kb_ci (ws2 := (w_Deals dA da (a 0) z0 ++ (w_Ride dA a (ph 0) (ph 1) z1 ++ (w_Plan dA pa pl)))) (kb_rS (n := 1) (As := [.int v2]) (rest := []) hx hb hml hown hK (c_X1_howMany l D dA H.size v2 r2 hc2) ⟨ww_5_26, ww_5_24, ww_5_25, ww_1_11, by decide, by decide⟩ rfl rfl (by decide +kernel) ⟨Nat.le_of_ble_eq_true rfl, Nat.le_of_ble_eq_true rfl⟩ hP hD hS hA hE [] rfl (by decide) rfl hl.1 rfl (Nat.le_of_ble_eq_true rfl) dX1_countAll_38 ⟨Nat.le_of_ble_eq_true rfl, Nat.le_of_ble_eq_true rfl⟩) hP hD hS hA [] [0, 1, 2, 3, 4, 5, 6, 7, 8, 9, 10, 11, 12, 13, 14, 15, 16, 17, 18, 19, 20, 21, 22, 23, 24, 25, 26, 27, 28, 29, 30, 31, 32, 33] [0, 1, 2, 3, 4, 5, 6, 7, 8, 9, 10, 11, 12, 13, 14, 15, 16, 17, 18, 19, 20, 21, 22, 23, 24, 25, 26, 27, 28, 29, 30, 31, 32, 33] rfl rfl (by decide) (by decide) rfl (by decide) (fun H locs hP hD hS => ?_)
        refine lv_istore_n (lv' := [(3, .int r2), (0, .ref (da 0)), (1, .ref (pa 0)), (2, .int v2)]) hx hb dX1_countAll_41 rfl hl (by decide) rfl (fun ls hl => ?_)
        refine lv_iconst (v := (0 : Int32)) hx hb dX1_countAll_42 (by decide) ?_
        refine lv_istore (lv' := [(4, .int (0 : Int32)), (3, .int r2), (0, .ref (da 0)), (1, .ref (pa 0)), (2, .int v2)]) hx hb dX1_countAll_43 hl (by decide) rfl (fun ls hl => ?_)
        exact B_45 4096 (kb_ph [(ph 0), (ph 1)]) _ _ _ _ _ _ _ _ hf hP hD hS (lv_sub hl [2, 3, 4, 1, 0] rfl)
      · rw [if_neg c_1] at hf
        refine lv_aload_n hx hb dX1_countAll_17 rfl (lv_at hl 0 rfl) ?_
        refine va_get (D := D) (ci := 1) (v := .ref (da 3)) (C := RX1) (T := TX1) (N := 5) hx hb hts kb_inX1 hown hK.1 hP 0 rfl rfl 3 (by decide) (hK.2.w ww_2_139 rfl _) (fun _ h9 => h9) rfl dX1_countAll_18 ?_
        refine lv_iload_n hx hb dX1_countAll_21 rfl (lv_at hl 3 rfl) ?_
        refine lv_iload_n hx hb dX1_countAll_22 rfl (lv_at hl 3 rfl) ?_
        obtain ⟨h_15, hf⟩ := kb_if hf
        refine va_iast (D := D) hx hb hK.1 hP hD hS 3 0 rfl rfl h_15 dX1_countAll_23 (fun H locs hP hD hS => ?_)
        have hP : va_P D vwCl (w_Deals dA da (a 0) (de_set_hand z0 (upd (de_hand z0) (v3).toNatClampNeg v3)) ++ (w_Ride dA a (ph 0) (ph 1) z1 ++ (w_Plan dA pa pl))) H := hP
        have hD : va_D A (w_Deals dA da (a 0) (de_set_hand z0 (upd (de_hand z0) (v3).toNatClampNeg v3)) ++ (w_Ride dA a (ph 0) (ph 1) z1 ++ (w_Plan dA pa pl))) := hD
        exact B_24 (f_X1_countAll_b12 pl n) ih (kb_ph [(ph 0), (ph 1)]) _ _ _ _ _ _ _ hf hP hD hS (lv_sub hl [0, 1, 2, 3] rfl)
  have E0 : ∀ (H : Heap) (locs : List Loc), va_P D vwCl (w_Deals dA da (a 0) de ++ (w_Ride dA a (ph 0) (ph 1) rd ++ (w_Plan dA pa pl))) H → va_D A (w_Deals dA da (a 0) de ++ (w_Ride dA a (ph 0) (ph 1) rd ++ (w_Plan dA pa pl))) → va_S A s.heap H locs → W p l e ({ frames := 6, cells := 0, slots := 0, locals := 149 } : Room) s m ([.ref (da 0), .ref (pa 0)] : List Value).toArray below meth c H locs 0 0 Q (F0 m 0 ls []) := by
    intro H locs hP hD hS
    rw [f_X1_countAll] at hf
    refine lv_aload_n hx hb dX1_countAll_0 rfl (lv_at hl 1 rfl) ?_
    refine va_get (D := D) (ci := 5) (v := .int (pl_riderCount pl)) (C := RX5) (T := TX5) (N := 8) hx hb hts kb_inX5 hown hK.1 hP 13 rfl rfl 5 (by decide) (hK.2.w ww_1_235 rfl _) (fun _ h9 => h9) rfl dX1_countAll_1 ?_
    refine lv_bipush (v := (6 : Int32)) hx hb dX1_countAll_4 (by decide) ?_
    refine va_mmin hx hb (hml.trans hl.1.symm) hown (hK.2.w ww_5_23 rfl _) (hK.2.w ww_2_214 rfl _) (hK.2.w ww_1_13 rfl _) (hK.2.w ww_2_215 rfl _) (Nat.le_of_ble_eq_true rfl) (Nat.le_of_ble_eq_true rfl) (Nat.le_of_ble_eq_true rfl) (Nat.le_of_ble_eq_true rfl) dX1_countAll_6 ?_
    refine lv_istore_n (lv' := [(2, .int (if (6 : Int32) < (pl_riderCount pl) then (6 : Int32) else (pl_riderCount pl))), (0, .ref (da 0)), (1, .ref (pa 0))]) hx hb dX1_countAll_9 rfl hl (by decide) rfl (fun ls hl => ?_)
    refine lv_iconst (v := (0 : Int32)) hx hb dX1_countAll_10 (by decide) ?_
    refine lv_istore_n (lv' := [(3, .int (0 : Int32)), (2, .int (if (6 : Int32) < (pl_riderCount pl) then (6 : Int32) else (pl_riderCount pl))), (0, .ref (da 0)), (1, .ref (pa 0))]) hx hb dX1_countAll_11 rfl hl (by decide) rfl (fun ls hl => ?_)
    exact B_12 4096 (kb_ph [(ph 0), (ph 1)]) _ _ _ _ _ _ _ hf hP hD hS (lv_sub hl [2, 3, 1, 0] rfl)
  exact E0 _ _ hP hD hS

noncomputable def f_X10_dealt_b53 (pl : PlanT) (v1 : Int32) (z0 : TopT) (z2 : DealsT) (z3 : RideT) : Option (Int32 × TopT × DealsT × RideT) := if kb_in? v1 8 then (if ((de_told z2) (v1).toNatClampNeg) = (-1 : Int32) then (f_X10_refused z0 (5 : Int32)).bind fun r9 => some (r9.1, r9.2, z2, z3) else if kb_in? v1 8 then (f_X10_answered z0 ((de_asMuch z2) (v1).toNatClampNeg)).bind fun r8 => some (r8.1, r8.2, z2, z3) else none) else none
noncomputable def f_X10_dealt (tp : TopT) (pl : PlanT) (de : DealsT) (rd : RideT) (x0 : Int32) : Option (Int32 × TopT × DealsT × RideT) := (f_X10_isRider tp pl x0).bind fun r1 => (if r1 = 0 then (f_X10_refused tp (1 : Int32)).bind fun r12 => some (r12.1, r12.2, de, rd) else (if (pl_riderCount pl) ≤ (6 : Int32) then (if (de_counted de) = 0 then (f_X1_countAll de rd pl).bind fun r10 => f_X10_dealt_b53 pl x0 tp r10.1 r10.2 else f_X10_dealt_b53 pl x0 tp de rd) else (f_X10_refused tp (3 : Int32)).bind fun r11 => some (r11.1, r11.2, de, rd)))
set_option maxHeartbeats 4000000 in
set_option maxRecDepth 100000 in
theorem c_X10_dealt (l : Launch) (D : va_G) (dA : Nat → ClassId) (sz : Nat) (t : Nat → Nat) (pa : Nat → Nat) (da : Nat → Nat) (a : Nat → Nat) (g0 : Nat) (g2 : Nat) (g3 : Nat) (g4 : Nat) (g5 : Nat) (g6 : Nat) (g7 : Nat) (ph : Nat → Nat) (tp : TopT) (pl : PlanT) (de : DealsT) (rd : RideT) (x0 : Int32) (rv : Int32) (u0 : TopT) (u2 : DealsT) (u3 : RideT) (hf : f_X10_dealt tp pl de rd x0 = some (rv, u0, u2, u3)) : kb_FMi l yX10_dealt cX10_dealt 2 (some .int) ({ frames := 7, cells := 0, slots := 0, locals := 174 } : Room) D dA [.ref (t 0), .int x0] sz (w_Top dA t g0 (pa 0) g2 g3 g4 g5 g6 g7 (da 0) tp ++ (w_Plan dA pa pl ++ (w_Deals dA da (a 0) de ++ (w_Ride dA a (ph 0) (ph 1) rd)))) 0 0 rv (fun (ph2 : Nat → Nat) => (w_Top dA t g0 (pa 0) g2 g3 g4 g5 g6 g7 (da 0) u0 ++ (w_Plan dA pa pl ++ (w_Deals dA da (a 0) u2 ++ (w_Ride dA a (ph2 0) (ph2 1) u3))))) := by
  refine Met.ofW (cc := cX10_dealt) (maxL := 2) (ret := (some .int)) (by decide) rfl ?_
  intro p e s m args below meth c s₁ B hml hv
  obtain ⟨rfl, hsz, hP, hK, hD0, hE⟩ := hv
  have hx := B.exec
  have hb := B.bytes
  have hr := B.returns
  have hown : s.vm.findClass RX10 = some m.cls := findClass_of_methodNamed B.named
  have hlocks := B.notSynchronized
  have hts : ∀ w ∈ kb_gw, w.before ([.ref (t 0), .int x0] : List Value).toArray s = true := fun w hw => hK.2.1 w hw _
  subst hsz
  have hD := hD0.self (sz := s.heap.size)
  generalize hAe : va_A (w_Top dA t g0 (pa 0) g2 g3 g4 g5 g6 g7 (da 0) tp ++ (w_Plan dA pa pl ++ (w_Deals dA da (a 0) de ++ (w_Ride dA a (ph 0) (ph 1) rd)))) s.heap.size = A at hD hE ⊢
  have hA : ∀ q : Nat, s.heap.size ≤ q → A q := fun q h => by rw [← hAe]; exact Or.inr h
  have hS : va_S A s.heap s.heap [] := va_S.rf
  have hl := lv_entry ([.ref (t 0), .int x0]) (n := 2) (Nat.le_of_ble_eq_true rfl)
  rw [lg_entry_eq]
  generalize (lg_sl ([.ref (t 0), .int x0]) ++ List.replicate (2 - (lg_sl ([.ref (t 0), .int x0])).length) Slot.unset).toArray = ls at hl ⊢
  have hl : lv_has ls 2 [(0, .ref (t 0)), (1, .int x0)] := hl
  generalize hQ : MQ below (va_Qi (fun r (_ : Nat → Nat) => r = rv) (fun ph2 => kb_B D A (w_Top dA t g0 (pa 0) g2 g3 g4 g5 g6 g7 (da 0) u0 ++ (w_Plan dA pa pl ++ (w_Deals dA da (a 0) u2 ++ (w_Ride dA a (ph2 0) (ph2 1) u3)))) ()) A) ([.ref (t 0), .int x0] : List Value).toArray s 0 0 A = Q
  show W p l e ({ frames := 7, cells := 0, slots := 0, locals := 174 } : Room) s m ([.ref (t 0), .int x0] : List Value).toArray below meth c s.heap [] 0 0 Q (F0 m 0 ls [])
  have RET : ∀ (ph2 : Nat → Nat) (r2 : Int32) (w0 : TopT) (w2 : DealsT) (w3 : RideT) (H : Heap) (locs : List Loc) (ls : Array Slot) (pc : Nat), some (r2, w0, w2, w3) = some (rv, u0, u2, u3) → va_P D vwCl (w_Top dA t g0 (pa 0) g2 g3 g4 g5 g6 g7 (da 0) w0 ++ (w_Plan dA pa pl ++ (w_Deals dA da (a 0) w2 ++ (w_Ride dA a (ph2 0) (ph2 1) w3)))) H → va_D A (w_Top dA t g0 (pa 0) g2 g3 g4 g5 g6 g7 (da 0) w0 ++ (w_Plan dA pa pl ++ (w_Deals dA da (a 0) w2 ++ (w_Ride dA a (ph2 0) (ph2 1) w3)))) → va_S A s.heap H locs → decode cX10_dealt pc = .ok (.ireturn, 1) → W p l e ({ frames := 7, cells := 0, slots := 0, locals := 174 } : Room) s m ([.ref (t 0), .int x0] : List Value).toArray below meth c H locs 0 0 Q (F0 m pc ls [.int r2]) := by
    intro ph2 r2 w0 w2 w3 H locs ls pc hq hP hD hS hd
    cases hq
    rw [← hQ]
    exact W.iret hx hb hr (fun t ht hW => ⟨⟨_, ph2, rfl, rfl, by rw [ht]; exact hP, hD⟩, hS.F ht⟩) hS.2.2 hd
  have B_53 : ∀ (ph : Nat → Nat) (v1 : Int32) (z0 : TopT) (z2 : DealsT) (z3 : RideT) (H : Heap) (locs : List Loc) (ls : Array Slot), f_X10_dealt_b53 pl v1 z0 z2 z3 = some (rv, u0, u2, u3) → va_P D vwCl (w_Top dA t g0 (pa 0) g2 g3 g4 g5 g6 g7 (da 0) z0 ++ (w_Plan dA pa pl ++ (w_Deals dA da (a 0) z2 ++ (w_Ride dA a (ph 0) (ph 1) z3)))) H → va_D A (w_Top dA t g0 (pa 0) g2 g3 g4 g5 g6 g7 (da 0) z0 ++ (w_Plan dA pa pl ++ (w_Deals dA da (a 0) z2 ++ (w_Ride dA a (ph 0) (ph 1) z3)))) → va_S A s.heap H locs → lv_has ls 2 [(0, .ref (t 0)), (1, .int v1)] → W p l e ({ frames := 7, cells := 0, slots := 0, locals := 174 } : Room) s m ([.ref (t 0), .int x0] : List Value).toArray below meth c H locs 0 0 Q (F0 m 53 ls []) := by
    intro ph v1 z0 z2 z3 H locs ls hf hP hD hS hl
    rw [f_X10_dealt_b53] at hf
    refine lv_aload_n hx hb dX10_dealt_53 rfl (lv_at hl 0 rfl) ?_
    refine va_get (D := D) (ci := 10) (v := .ref (da 0)) (C := RX10) (T := TX10) (N := 12) hx hb hts kb_inX10 hown hK.1 hP 0 rfl rfl 10 (by decide) (hK.2.w ww_2_162 rfl _) (fun _ h9 => h9) rfl dX10_dealt_54 ?_
    refine va_get (D := D) (ci := 1) (v := .ref (da 1)) (C := RX1) (T := TX1) (N := 5) hx hb hts kb_inX1 hown hK.1 hP 22 rfl rfl 1 (by decide) (hK.2.w ww_2_136 rfl _) (fun _ h9 => h9) rfl dX10_dealt_57 ?_
    refine lv_iload_n hx hb dX10_dealt_60 rfl (lv_at hl 1 rfl) ?_
    obtain ⟨h_5, hf⟩ := kb_if hf
    refine va_iald (D := D) hx hb hK.1 hP 23 0 rfl rfl h_5 dX10_dealt_61 ?_
    refine lv_iconst (v := (-1 : Int32)) hx hb dX10_dealt_62 (by decide) ?_
    refine lv_icmp_ne (tgt := 72) hx hb dX10_dealt_63 (by decide) (fun c_6 => ?_) (fun c_6 => ?_)
    · rw [if_neg c_6] at hf
      refine lv_aload_n hx hb dX10_dealt_72 rfl (lv_at hl 0 rfl) ?_
      refine lv_aload_n hx hb dX10_dealt_73 rfl (lv_at hl 0 rfl) ?_
      refine va_get (D := D) (ci := 10) (v := .ref (da 0)) (C := RX10) (T := TX10) (N := 12) hx hb hts kb_inX10 hown hK.1 hP 0 rfl rfl 10 (by decide) (hK.2.w ww_2_162 rfl _) (fun _ h9 => h9) rfl dX10_dealt_74 ?_
      refine va_get (D := D) (ci := 1) (v := .ref (da 2)) (C := RX1) (T := TX1) (N := 5) hx hb hts kb_inX1 hown hK.1 hP 22 rfl rfl 2 (by decide) (hK.2.w ww_2_138 rfl _) (fun _ h9 => h9) rfl dX10_dealt_77 ?_
      refine lv_iload_n hx hb dX10_dealt_80 rfl (lv_at hl 1 rfl) ?_
      obtain ⟨h_7, hf⟩ := kb_if hf
      refine va_iald (D := D) hx hb hK.1 hP 24 0 rfl rfl h_7 dX10_dealt_81 ?_
      obtain ⟨r8, hc8, hf⟩ := kb_bind hf
      refine kb_ci (ws2 := (w_Top dA t g0 (pa 0) g2 g3 g4 g5 g6 g7 (da 0) r8.2 ++ (w_Plan dA pa pl ++ (w_Deals dA da (a 0) z2 ++ (w_Ride dA a (ph 0) (ph 1) z3))))) (kb_rV (n := 1) (As := [.int ((de_asMuch z2) (v1).toNatClampNeg)]) (rest := []) hx hb hml hown hK (c_X10_answered l D dA H.size t g0 (pa 0) g2 g3 g4 g5 g6 g7 (da 0) z0 ((de_asMuch z2) (v1).toNatClampNeg) r8.1 r8.2 hc8) ⟨ww_3_184, ww_3_181, ww_3_183, ws_22, ww_1_1, rfl, by decide, by decide⟩ rfl rfl (by decide +kernel) ⟨Nat.le_of_ble_eq_true rfl, Nat.le_of_ble_eq_true rfl⟩ hP hD hS hA hE [0] rfl (by decide) 0 rfl rfl rfl hl.1 rfl (Nat.le_of_ble_eq_true rfl) dX10_dealt_82 ⟨Nat.le_of_ble_eq_true rfl, Nat.le_of_ble_eq_true rfl⟩) hP hD hS hA [0] [1, 2, 3, 4, 5, 6, 7, 8, 9, 10, 11, 12, 13, 14, 15, 16, 17, 18, 19, 20, 21, 22, 23, 24, 25, 26, 27, 28, 29, 30, 31, 32, 33, 34] [34, 0, 1, 2, 3, 4, 5, 6, 7, 8, 9, 10, 11, 12, 13, 14, 15, 16, 17, 18, 19, 20, 21, 22, 23, 24, 25, 26, 27, 28, 29, 30, 31, 32, 33] rfl rfl (by decide) (by decide) rfl (by decide) (fun H locs hP hD hS => ?_)
      exact RET (kb_ph [(ph 0), (ph 1)]) _ _ _ _ H _ ls 85 hf hP hD hS dX10_dealt_85
    · rw [if_pos c_6] at hf
      refine lv_aload_n hx hb dX10_dealt_66 rfl (lv_at hl 0 rfl) ?_
      refine lv_iconst (v := (5 : Int32)) hx hb dX10_dealt_67 (by decide) ?_
      obtain ⟨r9, hc9, hf⟩ := kb_bind hf
      refine kb_ci (ws2 := (w_Top dA t g0 (pa 0) g2 g3 g4 g5 g6 g7 (da 0) r9.2 ++ (w_Plan dA pa pl ++ (w_Deals dA da (a 0) z2 ++ (w_Ride dA a (ph 0) (ph 1) z3))))) (kb_rV (n := 1) (As := [.int (5 : Int32)]) (rest := []) hx hb hml hown hK (c_X10_refused l D dA H.size t g0 (pa 0) g2 g3 g4 g5 g6 g7 (da 0) z0 (5 : Int32) r9.1 r9.2 hc9) ⟨ww_2_204, ww_2_201, ww_2_203, ws_0, ww_1_1, rfl, by decide, by decide⟩ rfl rfl (by decide +kernel) ⟨Nat.le_of_ble_eq_true rfl, Nat.le_of_ble_eq_true rfl⟩ hP hD hS hA hE [0] rfl (by decide) 0 rfl rfl rfl hl.1 rfl (Nat.le_of_ble_eq_true rfl) dX10_dealt_68 ⟨Nat.le_of_ble_eq_true rfl, Nat.le_of_ble_eq_true rfl⟩) hP hD hS hA [0] [1, 2, 3, 4, 5, 6, 7, 8, 9, 10, 11, 12, 13, 14, 15, 16, 17, 18, 19, 20, 21, 22, 23, 24, 25, 26, 27, 28, 29, 30, 31, 32, 33, 34] [34, 0, 1, 2, 3, 4, 5, 6, 7, 8, 9, 10, 11, 12, 13, 14, 15, 16, 17, 18, 19, 20, 21, 22, 23, 24, 25, 26, 27, 28, 29, 30, 31, 32, 33] rfl rfl (by decide) (by decide) rfl (by decide) (fun H locs hP hD hS => ?_)
      exact RET (kb_ph [(ph 0), (ph 1)]) _ _ _ _ H _ ls 71 hf hP hD hS dX10_dealt_71
  have E0 : ∀ (H : Heap) (locs : List Loc), va_P D vwCl (w_Top dA t g0 (pa 0) g2 g3 g4 g5 g6 g7 (da 0) tp ++ (w_Plan dA pa pl ++ (w_Deals dA da (a 0) de ++ (w_Ride dA a (ph 0) (ph 1) rd)))) H → va_D A (w_Top dA t g0 (pa 0) g2 g3 g4 g5 g6 g7 (da 0) tp ++ (w_Plan dA pa pl ++ (w_Deals dA da (a 0) de ++ (w_Ride dA a (ph 0) (ph 1) rd)))) → va_S A s.heap H locs → W p l e ({ frames := 7, cells := 0, slots := 0, locals := 174 } : Room) s m ([.ref (t 0), .int x0] : List Value).toArray below meth c H locs 0 0 Q (F0 m 0 ls []) := by
    intro H locs hP hD hS
    rw [f_X10_dealt] at hf
    refine lv_aload_n hx hb dX10_dealt_0 rfl (lv_at hl 0 rfl) ?_
    refine lv_iload_n hx hb dX10_dealt_1 rfl (lv_at hl 1 rfl) ?_
    obtain ⟨r1, hc1, hf⟩ := kb_bind hf
    refine kb_ci (ws2 := (w_Top dA t g0 (pa 0) g2 g3 g4 g5 g6 g7 (da 0) tp ++ (w_Plan dA pa pl ++ (w_Deals dA da (a 0) de ++ (w_Ride dA a (ph 0) (ph 1) rd))))) (kb_rV (n := 1) (As := [.int x0]) (rest := []) hx hb hml hown hK (c_X10_isRider l D dA H.size t pa g0 g2 g3 g4 g5 g6 g7 (da 0) tp pl x0 r1 hc1) ⟨ww_4_75, ww_4_72, ww_4_74, ws_33, ww_1_1, rfl, by decide, by decide⟩ rfl rfl (by decide +kernel) ⟨Nat.le_of_ble_eq_true rfl, Nat.le_of_ble_eq_true rfl⟩ hP hD hS hA hE [0, 1, 2, 3, 4, 5, 6, 7, 8, 9, 10, 11, 12, 13, 14, 15, 16, 17, 18, 19, 20, 21] rfl (by decide) 0 rfl rfl rfl hl.1 rfl (Nat.le_of_ble_eq_true rfl) dX10_dealt_2 ⟨Nat.le_of_ble_eq_true rfl, Nat.le_of_ble_eq_true rfl⟩) hP hD hS hA [0, 1, 2, 3, 4, 5, 6, 7, 8, 9, 10, 11, 12, 13, 14, 15, 16, 17, 18, 19, 20, 21] [22, 23, 24, 25, 26, 27, 28, 29, 30, 31, 32, 33, 34] [13, 14, 15, 16, 17, 18, 19, 20, 21, 22, 23, 24, 25, 26, 27, 28, 29, 30, 31, 32, 33, 34, 0, 1, 2, 3, 4, 5, 6, 7, 8, 9, 10, 11, 12] rfl rfl (by decide) (by decide) rfl (by decide) (fun H locs hP hD hS => ?_)
    refine lv_if_ne (tgt := 14) hx hb dX10_dealt_5 (by decide) (fun c_2 => ?_) (fun c_2 => ?_)
    · rw [if_neg c_2] at hf
      refine lv_aload_n hx hb dX10_dealt_14 rfl (lv_at hl 0 rfl) ?_
      refine va_get (D := D) (ci := 10) (v := .ref (pa 0)) (C := RX10) (T := TX10) (N := 12) hx hb hts kb_inX10 hown hK.1 hP 0 rfl rfl 1 (by decide) (hK.2.w ww_2_153 rfl _) (fun _ h9 => h9) rfl dX10_dealt_15 ?_
      refine va_get (D := D) (ci := 5) (v := .int (pl_riderCount pl)) (C := RX5) (T := TX5) (N := 8) hx hb hts kb_inX5 hown hK.1 hP 1 rfl rfl 5 (by decide) (hK.2.w ww_1_236 rfl _) (fun _ h9 => h9) rfl dX10_dealt_18 ?_
      refine lv_bipush (v := (6 : Int32)) hx hb dX10_dealt_21 (by decide) ?_
      refine lv_icmp_le (tgt := 32) hx hb dX10_dealt_23 (by decide) (fun c_3 => ?_) (fun c_3 => ?_)
      · rw [if_pos c_3] at hf
        refine lv_aload_n hx hb dX10_dealt_32 rfl (lv_at hl 0 rfl) ?_
        refine va_get (D := D) (ci := 10) (v := .ref (da 0)) (C := RX10) (T := TX10) (N := 12) hx hb hts kb_inX10 hown hK.1 hP 0 rfl rfl 10 (by decide) (hK.2.w ww_2_162 rfl _) (fun _ h9 => h9) rfl dX10_dealt_33 ?_
        refine va_get (D := D) (ci := 1) (v := .int (de_counted de)) (C := RX1) (T := TX1) (N := 5) hx hb hts kb_inX1 hown hK.1 hP 22 rfl rfl 0 (by decide) (hK.2.w ww_2_134 rfl _) (fun _ h9 => h9) rfl dX10_dealt_36 ?_
        refine lv_if_ne (tgt := 53) hx hb dX10_dealt_39 (by decide) (fun c_4 => ?_) (fun c_4 => ?_)
        · rw [if_neg c_4] at hf
          exact B_53 (kb_ph [(ph 0), (ph 1)]) _ _ _ _ _ _ _ hf hP hD hS (lv_sub hl [0, 1] rfl)
        · rw [if_pos c_4] at hf
          refine lv_aload_n hx hb dX10_dealt_42 rfl (lv_at hl 0 rfl) ?_
          refine va_get (D := D) (ci := 10) (v := .ref (da 0)) (C := RX10) (T := TX10) (N := 12) hx hb hts kb_inX10 hown hK.1 hP 0 rfl rfl 10 (by decide) (hK.2.w ww_2_162 rfl _) (fun _ h9 => h9) rfl dX10_dealt_43 ?_
          refine lv_aload_n hx hb dX10_dealt_46 rfl (lv_at hl 0 rfl) ?_
          refine va_get (D := D) (ci := 10) (v := .ref (pa 0)) (C := RX10) (T := TX10) (N := 12) hx hb hts kb_inX10 hown hK.1 hP 0 rfl rfl 1 (by decide) (hK.2.w ww_2_153 rfl _) (fun _ h9 => h9) rfl dX10_dealt_47 ?_
          obtain ⟨r10, hc10, hf⟩ := kb_bind hf
          refine kb_Fcv (ws2 := fun ph10 => (w_Top dA t g0 (pa 0) g2 g3 g4 g5 g6 g7 (da 0) tp ++ (w_Plan dA pa pl ++ (w_Deals dA da (a 0) r10.1 ++ (w_Ride dA a (ph10 0) (ph10 1) r10.2))))) (kb_rV (n := 1) (As := [.ref (pa 0)]) (rest := []) hx hb hml hown hK (c_X1_countAll l D dA H.size da a pa (kb_ph [(ph 0), (ph 1)]) de rd pl r10.1 r10.2 hc10) ⟨ww_5_22, ww_5_19, ww_5_20, ww_5_21, ww_1_11, rfl, by decide, by decide⟩ rfl rfl (by decide +kernel) ⟨Nat.le_of_ble_eq_true rfl, Nat.le_of_ble_eq_true rfl⟩ hP hD hS hA hE [22, 23, 24, 25, 26, 27, 28, 29, 30, 31, 32, 33, 34, 1, 2, 3, 4, 5, 6, 7, 8, 9, 10, 11, 12, 13, 14, 15, 16, 17, 18, 19, 20, 21] rfl (by decide) 0 rfl rfl rfl hl.1 rfl (Nat.le_of_ble_eq_true rfl) dX10_dealt_50 ⟨Nat.le_of_ble_eq_true rfl, Nat.le_of_ble_eq_true rfl⟩) hP hD hS hA [22, 23, 24, 25, 26, 27, 28, 29, 30, 31, 32, 33, 34, 1, 2, 3, 4, 5, 6, 7, 8, 9, 10, 11, 12, 13, 14, 15, 16, 17, 18, 19, 20, 21] [0] [0, 14, 15, 16, 17, 18, 19, 20, 21, 22, 23, 24, 25, 26, 27, 28, 29, 30, 31, 32, 33, 34, 1, 2, 3, 4, 5, 6, 7, 8, 9, 10, 11, 12, 13] rfl rfl (by decide) (by decide) (fun _ => rfl) (by decide) (fun ph10 H locs hP hD hS => ?_)
          exact B_53 (kb_ph [(ph10 0), (ph10 1)]) _ _ _ _ _ _ _ hf hP hD hS (lv_sub hl [0, 1] rfl)
      · rw [if_neg c_3] at hf
        refine lv_aload_n hx hb dX10_dealt_26 rfl (lv_at hl 0 rfl) ?_
        refine lv_iconst (v := (3 : Int32)) hx hb dX10_dealt_27 (by decide) ?_
        obtain ⟨r11, hc11, hf⟩ := kb_bind hf
        refine kb_ci (ws2 := (w_Top dA t g0 (pa 0) g2 g3 g4 g5 g6 g7 (da 0) r11.2 ++ (w_Plan dA pa pl ++ (w_Deals dA da (a 0) de ++ (w_Ride dA a (ph 0) (ph 1) rd))))) (kb_rV (n := 1) (As := [.int (3 : Int32)]) (rest := []) hx hb hml hown hK (c_X10_refused l D dA H.size t g0 (pa 0) g2 g3 g4 g5 g6 g7 (da 0) tp (3 : Int32) r11.1 r11.2 hc11) ⟨ww_2_204, ww_2_201, ww_2_203, ws_0, ww_1_1, rfl, by decide, by decide⟩ rfl rfl (by decide +kernel) ⟨Nat.le_of_ble_eq_true rfl, Nat.le_of_ble_eq_true rfl⟩ hP hD hS hA hE [0] rfl (by decide) 0 rfl rfl rfl hl.1 rfl (Nat.le_of_ble_eq_true rfl) dX10_dealt_28 ⟨Nat.le_of_ble_eq_true rfl, Nat.le_of_ble_eq_true rfl⟩) hP hD hS hA [0] [1, 2, 3, 4, 5, 6, 7, 8, 9, 10, 11, 12, 13, 14, 15, 16, 17, 18, 19, 20, 21, 22, 23, 24, 25, 26, 27, 28, 29, 30, 31, 32, 33, 34] [34, 0, 1, 2, 3, 4, 5, 6, 7, 8, 9, 10, 11, 12, 13, 14, 15, 16, 17, 18, 19, 20, 21, 22, 23, 24, 25, 26, 27, 28, 29, 30, 31, 32, 33] rfl rfl (by decide) (by decide) rfl (by decide) (fun H locs hP hD hS => ?_)
        exact RET (kb_ph [(ph 0), (ph 1)]) _ _ _ _ H _ ls 31 hf hP hD hS dX10_dealt_31
    · rw [if_pos c_2] at hf
      refine lv_aload_n hx hb dX10_dealt_8 rfl (lv_at hl 0 rfl) ?_
      refine lv_iconst (v := (1 : Int32)) hx hb dX10_dealt_9 (by decide) ?_
      obtain ⟨r12, hc12, hf⟩ := kb_bind hf
      refine kb_ci (ws2 := (w_Top dA t g0 (pa 0) g2 g3 g4 g5 g6 g7 (da 0) r12.2 ++ (w_Plan dA pa pl ++ (w_Deals dA da (a 0) de ++ (w_Ride dA a (ph 0) (ph 1) rd))))) (kb_rV (n := 1) (As := [.int (1 : Int32)]) (rest := []) hx hb hml hown hK (c_X10_refused l D dA H.size t g0 (pa 0) g2 g3 g4 g5 g6 g7 (da 0) tp (1 : Int32) r12.1 r12.2 hc12) ⟨ww_2_204, ww_2_201, ww_2_203, ws_0, ww_1_1, rfl, by decide, by decide⟩ rfl rfl (by decide +kernel) ⟨Nat.le_of_ble_eq_true rfl, Nat.le_of_ble_eq_true rfl⟩ hP hD hS hA hE [0] rfl (by decide) 0 rfl rfl rfl hl.1 rfl (Nat.le_of_ble_eq_true rfl) dX10_dealt_10 ⟨Nat.le_of_ble_eq_true rfl, Nat.le_of_ble_eq_true rfl⟩) hP hD hS hA [0] [1, 2, 3, 4, 5, 6, 7, 8, 9, 10, 11, 12, 13, 14, 15, 16, 17, 18, 19, 20, 21, 22, 23, 24, 25, 26, 27, 28, 29, 30, 31, 32, 33, 34] [34, 0, 1, 2, 3, 4, 5, 6, 7, 8, 9, 10, 11, 12, 13, 14, 15, 16, 17, 18, 19, 20, 21, 22, 23, 24, 25, 26, 27, 28, 29, 30, 31, 32, 33] rfl rfl (by decide) (by decide) rfl (by decide) (fun H locs hP hD hS => ?_)
      exact RET (kb_ph [(ph 0), (ph 1)]) _ _ _ _ H _ ls 13 hf hP hD hS dX10_dealt_13
  exact E0 _ _ hP hD hS
