/-! the law's loop -/
theorem kd_I.S {D : va_G} {dA : Nat → ClassId} {s : State} {t am oo : Nat → Nat} {H : Heap} {locs : List Loc} (h : kd_I D dA s t am oo H locs) : va_S (kd_A s) s.heap H locs := by
  rcases h with ⟨_, _, _, _, _, _, _, _, _, _, _, _, _, _, _, _, _, _, _, _, _, _, _, _, _, _, _, _, _, _, _, _, _, _, _, _, _, _, _, _, _, _, _, _, _, _, _, _, h, _⟩ | ⟨_, _, _, _, _, _, _, _, _, _, _, _, _, _, _, _, _, _, _, _, _, _, _, _, _, _, _, _, _, _, _, _, _, _, _, _, _, _, _, _, _, _, _, _, _, _, _, _, _, _, h, _⟩ <;> exact h
theorem kd_len {L i : Nat} (hL : L ≤ 3072) (hi : i ≤ L) (h : ¬ Int32.ofNat L - 6 < nI i) : i + 6 ≤ L := by
  rcases Nat.lt_or_ge L (i + 6) with q | q
  · refine absurd ?_ h
    have e : (Int32.ofNat L - 6).toInt = (L : Int) - 6 := by
      rw [Int32.toInt_sub, show (Int32.ofNat L).toInt = (L : Int) from nI_toInt (n := L) (by omega), show (6 : Int32).toInt = 6 from rfl]
      exact Int.bmod_eq_of_le_mul_two (by omega) (by omega)
    rw [Int32.lt_iff_toInt_lt, nI_toInt (by omega), e]
    omega
  · exact q
theorem kd_in {L i j : Nat} (hL : L ≤ 3072) (h : i + j < L) : vp_in (nI i + nI j) L := by
  rw [nI_add]
  exact vp_in_nI h (by omega)
set_option maxHeartbeats 4000000 in
set_option maxRecDepth 100000 in
theorem kd_loop {p : Program} {l : Launch} {e : Env} {s : State} {m : MethodId} {below : List Frame} {meth : Method} {c : Code} {b L : Nat} {xs : Nat → Int32} {D : va_G} {dA : Nat → ClassId} {t am oo : Nat → Nat} (hL : L ≤ 3072) (C : kd_X0 p l s m meth c b L xs D dA) : ∀ (n k : Nat), 6 * k ≤ L → L + 1 ≤ 6 * k + n → ∀ (H : Heap) (locs : List Loc) (ls : Array Slot), kd_I D dA s t am oo H locs → lv_has ls 7 (kd_lv b t am oo (nI (6 * k))) → W p l e room_1 s m #[Value.ref b] below meth c H locs (300 + 32 * k) (4000 + 300 * k) (lw_Z below #[Value.ref b] s) (F0 m 23 ls []) := by
  have C' := C
  obtain ⟨⟨hx, hb, hr, hml, hown, hts, hX, hbl, hlocks, hgv⟩, hlt, hK, hE, hZ⟩ := C
  have hbA : ¬ kd_A s b := Nat.not_le.mpr hbl
  intro n
  induction n with
  | zero =>
    intro k h1 h2
    exact absurd h2 (by omega)
  | succ n ih =>
    intro k h1 h2 H locs ls hI hl
    have hS := hI.S
    refine lv_iload hx hb dL_law_23 (lv_at hl 4 rfl) ?_
    refine lv_aload_n hx hb dL_law_25 rfl (lv_at hl 0 rfl) ?_
    refine va_slen hx hb hX hbl hbA hS dL_law_26 ?_
    refine lv_bipush (v := (6 : Int32)) hx hb dL_law_27 (by decide) ?_
    refine lv_isub hx hb dL_law_29 ?_
    refine lv_icmp_gt (tgt := 1273) hx hb dL_law_30 (by decide) (fun _ => ?_) (fun c1 => ?_)
    · refine lv_iconst (v := 1) hx hb dL_law_1273 (by decide) ?_
      refine va_forget (fun q hq => hS.2.2 q hq) ?_
      refine W.widen (k := 601024) (n := 7293033) (by omega) (by omega) ?_
      exact lw_ret hx hb hr hlocks dL_law_1274
    · have h6 : 6 * k + 6 ≤ L := kd_len hL h1 c1
      have KK : kd_KK p l e s m below meth c b D dA t am oo (nI (6 * k)) (300 + 32 * k) (4000 + 300 * k) := by
        intro H locs ls hI hl
        refine lv_iinc (v := nI (6 * (k + 1))) (lv' := [(4, .int (nI (6 * (k + 1)))), (0, .ref b), (1, .ref (t 0)), (2, .ref (am 0)), (3, .ref (oo 0))]) hx hb dL_law_1267 hl (k := 4) rfl (nI_add (6 * k) 6) (by decide) rfl (fun ls hl => ?_)
        refine lv_goto (tgt := 23) hx hb dL_law_1270 (by decide) ?_
        exact ih (k + 1) (by omega) (by omega) H locs ls hI (lv_sub hl [1, 2, 3, 4, 0] rfl)
      have S5 : kd_S5 xs L (nI (6 * k)) _ _ _ _ _ := ⟨kd_in (j := 1) hL (by omega), kd_in (j := 2) hL (by omega), kd_in (j := 3) hL (by omega), kd_in (j := 4) hL (by omega), kd_in (j := 5) hL (by omega), rfl, rfl, rfl, rfl, rfl⟩
      refine lv_aload_n hx hb dL_law_33 rfl (lv_at hl 0 rfl) ?_
      refine lv_iload hx hb dL_law_34 (lv_at hl 4 rfl) ?_
      refine va_sld hx hb hX hbl hbA hS (vp_in_nI (by omega) (by omega)) dL_law_36 ?_
      refine lv_bipush (v := (63 : Int32)) hx hb dL_law_37 (by decide) ?_
      refine lv_iand hx hb dL_law_39 ?_
      generalize (xs (nI (6 * k)).toNatClampNeg &&& 63) = y
      have DEF : W p l e room_1 s m #[Value.ref b] below meth c H locs (300 + 32 * k) (4000 + 300 * k) (lw_Z below #[Value.ref b] s) (F0 m 1267 ls []) := W.widen (k := 300 + 32 * k + 32) (n := 4000 + 300 * k + 300) (by omega) (by omega) (KK H locs ls hI hl)
      rcases pk_ix y (n := 41) (by omega) with hz | hz | ⟨j, hj, rfl⟩
      · refine lv_tableOut (tgt := 1267) hx hb dL_law_40 (Or.inl ?_) (by decide) DEF
        rw [Int32.lt_iff_toInt_lt] at hz
        exact hz
      · refine lv_tableOut (tgt := 1267) hx hb dL_law_40 (Or.inr ?_) (by decide) DEF
        rw [Int32.le_iff_toInt_le, nI_toInt (by omega)] at hz
        omega
      · have hc : 300 + 32 * k + 32 ≤ 601024 := by omega
        have hs : 4000 + 300 * k + 300 ≤ 7293033 := by omega
        rcases (show j = 0 ∨ j = 1 ∨ j = 2 ∨ j = 3 ∨ j = 4 ∨ j = 5 ∨ j = 6 ∨ j = 7 ∨ j = 8 ∨ j = 9 ∨ j = 10 ∨ j = 11 ∨ j = 12 ∨ j = 13 ∨ j = 14 ∨ j = 15 ∨ j = 16 ∨ j = 17 ∨ j = 18 ∨ j = 19 ∨ j = 20 ∨ j = 21 ∨ j = 22 ∨ j = 23 ∨ j = 24 ∨ j = 25 ∨ j = 26 ∨ j = 27 ∨ j = 28 ∨ j = 29 ∨ j = 30 ∨ j = 31 ∨ j = 32 ∨ j = 33 ∨ j = 34 ∨ j = 35 ∨ j = 36 ∨ j = 37 ∨ j = 38 ∨ j = 39 ∨ j = 40 by omega) with rfl | rfl | rfl | rfl | rfl | rfl | rfl | rfl | rfl | rfl | rfl | rfl | rfl | rfl | rfl | rfl | rfl | rfl | rfl | rfl | rfl | rfl | rfl | rfl | rfl | rfl | rfl | rfl | rfl | rfl | rfl | rfl | rfl | rfl | rfl | rfl | rfl | rfl | rfl | rfl | rfl
        · refine lv_tableIn (tgt := 220) hx hb dL_law_40 (by decide) (by decide) (off := 180) (by decide) (by decide) ?_
          exact hI.elim (fun h => kd_N0 C' hc hs S5 h hl KK) (fun h => kd_B0 C' hc hs S5 h hl KK)
        · refine lv_tableIn (tgt := 293) hx hb dL_law_40 (by decide) (by decide) (off := 253) (by decide) (by decide) ?_
          exact hI.elim (fun h => kd_N1 C' hc hs S5 h hl KK) (fun h => kd_B1 C' hc hs S5 h hl KK)
        · refine lv_tableIn (tgt := 318) hx hb dL_law_40 (by decide) (by decide) (off := 278) (by decide) (by decide) ?_
          exact hI.elim (fun h => kd_N2 C' hc hs S5 h hl KK) (fun h => kd_B2 C' hc hs S5 h hl KK)
        · refine lv_tableIn (tgt := 331) hx hb dL_law_40 (by decide) (by decide) (off := 291) (by decide) (by decide) ?_
          exact hI.elim (fun h => kd_N3 C' hc hs S5 h hl KK) (fun h => kd_B3 C' hc hs S5 h hl KK)
        · refine lv_tableIn (tgt := 344) hx hb dL_law_40 (by decide) (by decide) (off := 304) (by decide) (by decide) ?_
          exact hI.elim (fun h => kd_N4 C' hc hs S5 h hl KK) (fun h => kd_B4 C' hc hs S5 h hl KK)
        · refine lv_tableIn (tgt := 357) hx hb dL_law_40 (by decide) (by decide) (off := 317) (by decide) (by decide) ?_
          exact hI.elim (fun h => kd_N5 C' hc hs S5 h hl KK) (fun h => kd_B5 C' hc hs S5 h hl KK)
        · refine lv_tableIn (tgt := 370) hx hb dL_law_40 (by decide) (by decide) (off := 330) (by decide) (by decide) ?_
          exact hI.elim (fun h => kd_N6 C' hc hs S5 h hl KK) (fun h => kd_B6 C' hc hs S5 h hl KK)
        · refine lv_tableIn (tgt := 395) hx hb dL_law_40 (by decide) (by decide) (off := 355) (by decide) (by decide) ?_
          exact hI.elim (fun h => kd_N7 C' hc hs S5 h hl KK) (fun h => kd_B7 C' hc hs S5 h hl KK)
        · refine lv_tableIn (tgt := 420) hx hb dL_law_40 (by decide) (by decide) (off := 380) (by decide) (by decide) ?_
          exact hI.elim (fun h => kd_N8 C' hc hs S5 h hl KK) (fun h => kd_B8 C' hc hs S5 h hl KK)
        · refine lv_tableIn (tgt := 445) hx hb dL_law_40 (by decide) (by decide) (off := 405) (by decide) (by decide) ?_
          exact hI.elim (fun h => kd_N9 C' hc hs S5 h hl KK) (fun h => kd_B9 C' hc hs S5 h hl KK)
        · refine lv_tableIn (tgt := 470) hx hb dL_law_40 (by decide) (by decide) (off := 430) (by decide) (by decide) ?_
          exact hI.elim (fun h => kd_N10 C' hc hs S5 h hl KK) (fun h => kd_B10 C' hc hs S5 h hl KK)
        · refine lv_tableIn (tgt := 483) hx hb dL_law_40 (by decide) (by decide) (off := 443) (by decide) (by decide) ?_
          exact hI.elim (fun h => kd_N11 C' hc hs S5 h hl KK) (fun h => kd_B11 C' hc hs S5 h hl KK)
        · refine lv_tableIn (tgt := 496) hx hb dL_law_40 (by decide) (by decide) (off := 456) (by decide) (by decide) ?_
          exact hI.elim (fun h => kd_N12 C' hc hs S5 h hl KK) (fun h => kd_B12 C' hc hs S5 h hl KK)
        · refine lv_tableIn (tgt := 521) hx hb dL_law_40 (by decide) (by decide) (off := 481) (by decide) (by decide) ?_
          exact hI.elim (fun h => kd_N13 C' hc hs S5 h hl KK) (fun h => kd_B13 C' hc hs S5 h hl KK)
        · refine lv_tableIn (tgt := 546) hx hb dL_law_40 (by decide) (by decide) (off := 506) (by decide) (by decide) ?_
          exact hI.elim (fun h => kd_N14 C' hc hs S5 h hl KK) (fun h => kd_B14 C' hc hs S5 h hl KK)
        · refine lv_tableIn (tgt := 559) hx hb dL_law_40 (by decide) (by decide) (off := 519) (by decide) (by decide) ?_
          exact hI.elim (fun h => kd_N15 C' hc hs S5 h hl KK) (fun h => kd_B15 C' hc hs S5 h hl KK)
        · refine lv_tableIn (tgt := 572) hx hb dL_law_40 (by decide) (by decide) (off := 532) (by decide) (by decide) ?_
          exact hI.elim (fun h => kd_N16 C' hc hs S5 h hl KK) (fun h => kd_B16 C' hc hs S5 h hl KK)
        · refine lv_tableIn (tgt := 585) hx hb dL_law_40 (by decide) (by decide) (off := 545) (by decide) (by decide) ?_
          exact hI.elim (fun h => kd_N17 C' hc hs S5 h hl KK) (fun h => kd_B17 C' hc hs S5 h hl KK)
        · refine lv_tableIn (tgt := 610) hx hb dL_law_40 (by decide) (by decide) (off := 570) (by decide) (by decide) ?_
          exact hI.elim (fun h => kd_N18 C' hc hs S5 h hl KK) (fun h => kd_B18 C' hc hs S5 h hl KK)
        · refine lv_tableIn (tgt := 635) hx hb dL_law_40 (by decide) (by decide) (off := 595) (by decide) (by decide) ?_
          exact hI.elim (fun h => kd_N19 C' hc hs S5 h hl KK) (fun h => kd_B19 C' hc hs S5 h hl KK)
        · refine lv_tableIn (tgt := 660) hx hb dL_law_40 (by decide) (by decide) (off := 620) (by decide) (by decide) ?_
          exact hI.elim (fun h => kd_N20 C' hc hs S5 h hl KK) (fun h => kd_B20 C' hc hs S5 h hl KK)
        · refine lv_tableIn (tgt := 698) hx hb dL_law_40 (by decide) (by decide) (off := 658) (by decide) (by decide) ?_
          exact hI.elim (fun h => kd_N21 C' hc hs S5 h hl KK) (fun h => kd_B21 C' hc hs S5 h hl KK)
        · refine lv_tableIn (tgt := 712) hx hb dL_law_40 (by decide) (by decide) (off := 672) (by decide) (by decide) ?_
          exact hI.elim (fun h => kd_N22 C' hc hs S5 h hl KK) (fun h => kd_B22 C' hc hs S5 h hl KK)
        · refine lv_tableIn (tgt := 737) hx hb dL_law_40 (by decide) (by decide) (off := 697) (by decide) (by decide) ?_
          exact hI.elim (fun h => kd_N23 C' hc hs S5 h hl KK) (fun h => kd_B23 C' hc hs S5 h hl KK)
        · refine lv_tableIn (tgt := 774) hx hb dL_law_40 (by decide) (by decide) (off := 734) (by decide) (by decide) ?_
          exact hI.elim (fun h => kd_N24 C' hc hs S5 h hl KK) (fun h => kd_B24 C' hc hs S5 h hl KK)
        · refine lv_tableIn (tgt := 811) hx hb dL_law_40 (by decide) (by decide) (off := 771) (by decide) (by decide) ?_
          exact hI.elim (fun h => kd_N25 C' hc hs S5 h hl KK) (fun h => kd_B25 C' hc hs S5 h hl KK)
        · refine lv_tableIn (tgt := 836) hx hb dL_law_40 (by decide) (by decide) (off := 796) (by decide) (by decide) ?_
          exact hI.elim (fun h => kd_N26 C' hc hs S5 h hl KK) (fun h => kd_B26 C' hc hs S5 h hl KK)
        · refine lv_tableIn (tgt := 849) hx hb dL_law_40 (by decide) (by decide) (off := 809) (by decide) (by decide) ?_
          exact hI.elim (fun h => kd_N27 C' hc hs S5 h hl KK) (fun h => kd_B27 C' hc hs S5 h hl KK)
        · refine lv_tableIn (tgt := 874) hx hb dL_law_40 (by decide) (by decide) (off := 834) (by decide) (by decide) ?_
          exact hI.elim (fun h => kd_N28 C' hc hs S5 h hl KK) (fun h => kd_B28 C' hc hs S5 h hl KK)
        · refine lv_tableIn (tgt := 887) hx hb dL_law_40 (by decide) (by decide) (off := 847) (by decide) (by decide) ?_
          exact hI.elim (fun h => kd_N29 C' hc hs S5 h hl KK) (fun h => kd_B29 C' hc hs S5 h hl KK)
        · refine lv_tableIn (tgt := 925) hx hb dL_law_40 (by decide) (by decide) (off := 885) (by decide) (by decide) ?_
          exact hI.elim (fun h => kd_N30 C' hc hs S5 h hl KK) (fun h => kd_B30 C' hc hs S5 h hl KK)
        · refine lv_tableIn (tgt := 950) hx hb dL_law_40 (by decide) (by decide) (off := 910) (by decide) (by decide) ?_
          exact hI.elim (fun h => kd_N31 C' hc hs S5 h hl KK) (fun h => kd_B31 C' hc hs S5 h hl KK)
        · refine lv_tableIn (tgt := 975) hx hb dL_law_40 (by decide) (by decide) (off := 935) (by decide) (by decide) ?_
          exact hI.elim (fun h => kd_N32 C' hc hs S5 h hl KK) (fun h => kd_B32 C' hc hs S5 h hl KK)
        · refine lv_tableIn (tgt := 1012) hx hb dL_law_40 (by decide) (by decide) (off := 972) (by decide) (by decide) ?_
          exact hI.elim (fun h => kd_N33 C' hc hs S5 h hl KK) (fun h => kd_B33 C' hc hs S5 h hl KK)
        · refine lv_tableIn (tgt := 1049) hx hb dL_law_40 (by decide) (by decide) (off := 1009) (by decide) (by decide) ?_
          exact hI.elim (fun h => kd_N34 C' hc hs S5 h hl KK) (fun h => kd_B34 C' hc hs S5 h hl KK)
        · refine lv_tableIn (tgt := 1062) hx hb dL_law_40 (by decide) (by decide) (off := 1022) (by decide) (by decide) ?_
          exact hI.elim (fun h => kd_N35 C' hc hs S5 h hl KK) (fun h => kd_B35 C' hc hs S5 h hl KK)
        · refine lv_tableIn (tgt := 1099) hx hb dL_law_40 (by decide) (by decide) (off := 1059) (by decide) (by decide) ?_
          exact hI.elim (fun h => kd_N36 C' hc hs S5 h hl KK) (fun h => kd_B36 C' hc hs S5 h hl KK)
        · refine lv_tableIn (tgt := 1136) hx hb dL_law_40 (by decide) (by decide) (off := 1096) (by decide) (by decide) ?_
          exact hI.elim (fun h => kd_N37 C' hc hs S5 h hl KK) (fun h => kd_B37 C' hc hs S5 h hl KK)
        · refine lv_tableIn (tgt := 1173) hx hb dL_law_40 (by decide) (by decide) (off := 1133) (by decide) (by decide) ?_
          exact hI.elim (fun h => kd_N38 C' hc hs S5 h hl KK) (fun h => kd_B38 C' hc hs S5 h hl KK)
        · refine lv_tableIn (tgt := 1229) hx hb dL_law_40 (by decide) (by decide) (off := 1189) (by decide) (by decide) ?_
          exact hI.elim (fun h => kd_N39 C' hc hs S5 h hl KK) (fun h => kd_B39 C' hc hs S5 h hl KK)
        · refine lv_tableIn (tgt := 1254) hx hb dL_law_40 (by decide) (by decide) (off := 1214) (by decide) (by decide) ?_
          exact hI.elim (fun h => kd_N40 C' hc hs S5 h hl KK) (fun h => kd_B40 C' hc hs S5 h hl KK)
