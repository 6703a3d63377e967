/-! setting out: both begin anew; a copy; marks -/
section PB
variable {pl : PlanT} {bu : BusT}
theorem pu_upS (f : Nat → Int32) (k : Nat) (x : Int32) : upd f k x k = x := if_pos rfl
theorem pu_upN (f : Nat → Int32) {k j : Nat} (x : Int32) (h : ¬ j = k) : upd f k x j = f j := if_neg h
theorem pu_upI {f : Nat → Int32} {k : Nat} {x : Int32} {P : Nat → Int32 → Prop} (h0 : P k x) (h : ∀ j, j < k → P j (f j)) : ∀ j, j < k + 1 → P j (upd f k x j) := fun j hj => by
  by_cases e : j = k
  · subst e; rw [pu_upS]; exact h0
  · rw [pu_upN f x e]; exact h j (by omega)
def pu_BG (pl : PlanT) (rd : RideT) : Prop := (∀ s, s < 20 → sc_sitter (rd_scene rd) s = -2) ∧ (sc_looks (rd_scene rd) 8 = 5) ∧ (∀ r, r < vN pl → sc_looks (rd_scene rd) r = qr_looks (pl_riders pl) r) ∧ (∀ r, r < vN pl → rd_place rd r = 100) ∧ (∀ r, r < vN pl → rd_turn rd r = 0) ∧ (∀ r, r < vN pl → rd_passed rd r = 0) ∧ (∀ s, s < 20 → rd_luggage rd s = -2) ∧ (rd_joined rd = 0) ∧ (rd_turns rd = 0) ∧ (rd_gifts rd = 0) ∧ (rd_stops rd = 0)
theorem pu_BG.sit {pl : PlanT} {rd : RideT} (h : pu_BG pl rd) : ∀ s, s < 20 → sc_sitter (rd_scene rd) s = -2 := h.1
theorem pu_BG.l8 {pl : PlanT} {rd : RideT} (h : pu_BG pl rd) : sc_looks (rd_scene rd) 8 = 5 := h.2.1
theorem pu_BG.looks {pl : PlanT} {rd : RideT} (h : pu_BG pl rd) : ∀ r, r < vN pl → sc_looks (rd_scene rd) r = qr_looks (pl_riders pl) r := h.2.2.1
theorem pu_BG.pla {pl : PlanT} {rd : RideT} (h : pu_BG pl rd) : ∀ r, r < vN pl → rd_place rd r = 100 := h.2.2.2.1
theorem pu_BG.tur {pl : PlanT} {rd : RideT} (h : pu_BG pl rd) : ∀ r, r < vN pl → rd_turn rd r = 0 := h.2.2.2.2.1
theorem pu_BG.pas {pl : PlanT} {rd : RideT} (h : pu_BG pl rd) : ∀ r, r < vN pl → rd_passed rd r = 0 := h.2.2.2.2.2.1
theorem pu_BG.lug {pl : PlanT} {rd : RideT} (h : pu_BG pl rd) : ∀ s, s < 20 → rd_luggage rd s = -2 := h.2.2.2.2.2.2.1
theorem pu_BG.joi {pl : PlanT} {rd : RideT} (h : pu_BG pl rd) : rd_joined rd = 0 := h.2.2.2.2.2.2.2.1
theorem pu_BG.tus {pl : PlanT} {rd : RideT} (h : pu_BG pl rd) : rd_turns rd = 0 := h.2.2.2.2.2.2.2.2.1
theorem pu_BG.gif {pl : PlanT} {rd : RideT} (h : pu_BG pl rd) : rd_gifts rd = 0 := h.2.2.2.2.2.2.2.2.2.1
theorem pu_BG.sto {pl : PlanT} {rd : RideT} (h : pu_BG pl rd) : rd_stops rd = 0 := h.2.2.2.2.2.2.2.2.2.2
theorem pu_emp (sc : SceneT) : ∃ z, f_X9_empty sc = some z ∧ (∀ s, s < 20 → sc_sitter z s = -2) ∧ sc_looks z 8 = 5 := by
  refine pu_for (fun n i z => f_X9_empty_b7 n i z) 20 (fun i z => ∀ s, s < i → sc_sitter z s = -2) (fun o => ∃ z, o = some z ∧ (∀ s, s < 20 → sc_sitter z s = -2) ∧ sc_looks z 8 = 5) ?_ ?_ 20 0 sc 4096 (by omega) (by omega) (fun s hs => by omega)
  · intro n i z hi hI
    refine Or.inl ⟨sc_set_sitter z (upd (sc_sitter z) i (-2)), ?_, ?_⟩
    · show f_X9_empty_b7 (n + 1) (nI i) z = _
      rw [f_X9_empty_b7, if_neg (pu_ge20 hi), if_pos (pu_inn hi (by omega)), nI_clamp (by omega), nI_1]
    · exact pu_upI (P := fun _ x => x = (-2 : Int32)) rfl hI
  · intro n z hI
    refine ⟨sc_set_looks z (upd (sc_looks z) 8 5), ?_, hI, rfl⟩
    show f_X9_empty_b7 (n + 1) (nI 20) z = _
    rw [f_X9_empty_b7, if_pos pu_le20, if_pos (by decide)]
    rfl
theorem pu_begC (h : pu_GP pl) (rd : RideT) : ∃ rd', f_X6_begin rd pl = some rd' ∧ pu_BG pl rd' := by
  have hn := h.n31
  obtain ⟨z, ez, hz1, hz2⟩ := pu_emp (rd_scene rd)
  rw [f_X6_begin, ez, pu_sb]
  refine pu_for (fun n i z => f_X6_begin_b18 pl n i z) (vN pl) (fun i z => (∀ s, s < 20 → sc_sitter (rd_scene z) s = -2) ∧ sc_looks (rd_scene z) 8 = 5 ∧ (∀ r, r < i → sc_looks (rd_scene z) r = qr_looks (pl_riders pl) r) ∧ (∀ r, r < i → rd_place z r = 100) ∧ (∀ r, r < i → rd_turn z r = 0) ∧ (∀ r, r < i → rd_passed z r = 0)) (fun o => ∃ rd', o = some rd' ∧ pu_BG pl rd') ?_ ?_ (vN pl) 0 _ 4096 (by omega) (by omega) ⟨hz1, hz2, fun r hr => by omega, fun r hr => by omega, fun r hr => by omega, fun r hr => by omega⟩
  · intro n i z hi ⟨a1, a2, a3, a4, a5, a6⟩
    have h8 : i < 8 := by have := h.riders.2.2; omega
    refine Or.inl ⟨rd_set_passed (rd_set_turn (rd_set_place (rd_set_scene z (sc_set_looks (rd_scene z) (upd (sc_looks (rd_scene z)) i (qr_looks (pl_riders pl) i)))) (upd (rd_place z) i 100)) (upd (rd_turn z) i 0)) (upd (rd_passed z) i 0), ?_, ?_⟩
    · show f_X6_begin_b18 pl (n + 1) (nI i) z = _
      rw [f_X6_begin_b18, h.riders.1, if_neg (nI_ge hi (by omega)), f_X6_begin_b52, f_X6_begin_b66]
      simp only [if_pos (pu_inn (c := i) (N := 8) (by omega) (by omega)), if_pos (pu_inn (c := i) (N := 9) (by omega) (by omega)), nI_clamp (show i < 2 ^ 31 by omega), nI_1]
      rfl
    · refine ⟨a1, ?_, ?_, ?_, ?_, ?_⟩
      · show upd (sc_looks (rd_scene z)) i _ 8 = 5
        rw [pu_upN _ _ (by omega), a2]
      · show ∀ r, r < i + 1 → upd (sc_looks (rd_scene z)) i (qr_looks (pl_riders pl) i) r = _
        exact pu_upI (P := fun r x => x = qr_looks (pl_riders pl) r) rfl a3
      · show ∀ r, r < i + 1 → upd (rd_place z) i 100 r = _
        exact pu_upI (P := fun _ x => x = (100 : Int32)) rfl a4
      · show ∀ r, r < i + 1 → upd (rd_turn z) i 0 r = _
        exact pu_upI (P := fun _ x => x = (0 : Int32)) rfl a5
      · show ∀ r, r < i + 1 → upd (rd_passed z) i 0 r = _
        exact pu_upI (P := fun _ x => x = (0 : Int32)) rfl a6
  · intro n z ⟨a1, a2, a3, a4, a5, a6⟩
    show ∃ rd', f_X6_begin_b18 pl (n + 1) (nI (vN pl)) z = some rd' ∧ _
    rw [f_X6_begin_b18, h.riders.1, if_pos (nI_le (Nat.le_refl _) (by omega))]
    refine pu_for (fun n i z => f_X6_begin_b79 pl n i z) 20 (fun i z => (∀ s, s < 20 → sc_sitter (rd_scene z) s = -2) ∧ sc_looks (rd_scene z) 8 = 5 ∧ (∀ r, r < vN pl → sc_looks (rd_scene z) r = qr_looks (pl_riders pl) r) ∧ (∀ r, r < vN pl → rd_place z r = 100) ∧ (∀ r, r < vN pl → rd_turn z r = 0) ∧ (∀ r, r < vN pl → rd_passed z r = 0) ∧ rd_joined z = 0 ∧ ∀ s, s < i → rd_luggage z s = -2) (fun o => ∃ rd', o = some rd' ∧ pu_BG pl rd') ?_ ?_ 20 0 _ 4096 (by omega) (by omega) ⟨a1, a2, a3, a4, a5, a6, rfl, fun s hs => by omega⟩
    · intro n i z hi ⟨a1, a2, a3, a4, a5, a6, a7, a8⟩
      refine Or.inl ⟨rd_set_luggage z (upd (rd_luggage z) i (-2)), ?_, a1, a2, a3, a4, a5, a6, a7, ?_⟩
      · show f_X6_begin_b79 pl (n + 1) (nI i) z = _
        rw [f_X6_begin_b79, if_neg (pu_ge20 hi), if_pos (pu_inn hi (by omega)), nI_clamp (by omega), nI_1]
      · exact pu_upI (P := fun _ x => x = (-2 : Int32)) rfl a8
    · intro n z ⟨a1, a2, a3, a4, a5, a6, a7, a8⟩
      refine ⟨rd_set_stops (rd_set_gifts (rd_set_turns z 0) 0) 0, ?_, a1, a2, a3, a4, a5, a6, a8, a7, rfl, rfl, rfl⟩
      show f_X6_begin_b79 pl (n + 1) (nI 20) z = _
      rw [f_X6_begin_b79, if_pos pu_le20, f_X6_begin_b109]
theorem pu_begM (h : pu_GP pl) (hB : pu_RB pl bu) (mo : MOT) (w : WT) : ∃ w', f_X12_beginsAnew mo w bu = some w' ∧ (∀ r, r < vN pl → yW_r w' r = 100 ∧ yW_r w' (8 + r) = -1) ∧ ∀ k, 16 ≤ k → k < 56 → yW_r w' k = 0 := by
  have hn := h.n31
  have h8 := h.riders.2.2
  rw [f_X12_beginsAnew]
  refine pu_for (fun n i z => f_X12_beginsAnew_b2 mo bu n i z) 56 (fun i z => ∀ k, k < i → yW_r z k = 0) (fun o => ∃ w', o = some w' ∧ (∀ r, r < vN pl → yW_r w' r = 100 ∧ yW_r w' (8 + r) = -1) ∧ ∀ k, 16 ≤ k → k < 56 → yW_r w' k = 0) ?_ ?_ 56 0 w 4096 (by omega) (by omega) (fun s hs => by omega)
  · intro n i z hi hI
    refine Or.inl ⟨yW_set_r z (upd (yW_r z) i 0), ?_, ?_⟩
    · show f_X12_beginsAnew_b2 mo bu (n + 1) (nI i) z = _
      rw [f_X12_beginsAnew_b2, if_neg (show ¬ (56 : Int32) ≤ nI i from nI_ge (a := i) (b := 56) hi (by omega)), if_pos (pu_inn hi (by omega)), nI_clamp (by omega), f_X12_beginsAnew_b15, nI_1]
    · exact pu_upI (P := fun _ x => x = (0 : Int32)) rfl hI
  · intro n z hI
    show ∃ w', f_X12_beginsAnew_b2 mo bu (n + 1) (nI 56) z = some w' ∧ _
    rw [f_X12_beginsAnew_b2, if_pos (show (56 : Int32) ≤ nI 56 by decide)]
    refine pu_for (fun n i z => f_X12_beginsAnew_b23 mo bu n i z) (vN pl) (fun i z => (∀ r, r < i → yW_r z r = 100 ∧ yW_r z (8 + r) = -1) ∧ ∀ k, 16 ≤ k → k < 56 → yW_r z k = 0) (fun o => ∃ w', o = some w' ∧ (∀ r, r < vN pl → yW_r w' r = 100 ∧ yW_r w' (8 + r) = -1) ∧ ∀ k, 16 ≤ k → k < 56 → yW_r w' k = 0) ?_ ?_ (vN pl) 0 z 4096 (by omega) (by omega) ⟨fun s hs => by omega, fun k _ hk => hI k hk⟩
    · intro n i z hi ⟨b1, b2⟩
      refine Or.inl ⟨yW_set_r z (upd (upd (yW_r z) i 100) (8 + i) (-1)), ?_, ?_, ?_⟩
      · show f_X12_beginsAnew_b23 mo bu (n + 1) (nI i) z = _
        rw [f_X12_beginsAnew_b23, hB.riders, h.riders.1, if_neg (nI_ge hi (by omega)), pu_z, if_pos (pu_inn (by omega) (by omega)), nI_clamp (by omega), f_X12_beginsAnew_b44, pu_a8, if_pos (pu_inn (by omega) (by omega)), nI_clamp (by omega), f_X12_beginsAnew_b54, nI_1]
        rfl
      · intro r hr
        show upd (upd (yW_r z) i 100) (8 + i) (-1) r = 100 ∧ upd (upd (yW_r z) i 100) (8 + i) (-1) (8 + r) = -1
        by_cases e : r = i
        · subst e
          rw [pu_upS, pu_upN _ _ (by omega), pu_upS]; exact ⟨rfl, rfl⟩
        · rw [pu_upN _ _ (by omega), pu_upN _ _ (by omega), pu_upN _ _ (by omega), pu_upN _ _ (by omega)]; exact b1 r (by omega)
      · intro k hk1 hk2
        show upd (upd (yW_r z) i 100) (8 + i) (-1) k = 0
        rw [pu_upN _ _ (by omega), pu_upN _ _ (by omega)]; exact b2 k hk1 hk2
    · intro n z hI
      refine ⟨z, ?_, hI⟩
      show f_X12_beginsAnew_b23 mo bu (n + 1) (nI (vN pl)) z = _
      rw [f_X12_beginsAnew_b23, hB.riders, h.riders.1, if_pos (nI_le (Nat.le_refl _) (by omega))]
theorem pu_beg (h : pu_GP pl) {rd : RideT} (g : pu_BG pl rd) {w : Nat → Int32} (h1 : ∀ r, r < vN pl → w r = 100 ∧ w (8 + r) = -1) (h2 : ∀ k, 16 ≤ k → k < 56 → w k = 0) : pu_RR pl rd w ∧ pu_ON pl rd 0 ∧ pu_LK pl rd := by
  have h8 := h.riders.2.2
  have v0 : vSt 0 = 0 := by decide
  have ne : ∀ s, s < 20 → ¬ (100 : Int32) = nI s := fun s hs e => by
    have := (nI_eq (a := 100) (b := s) (by omega) (by omega)).mp e
    omega
  refine ⟨⟨fun r hr => ?_, fun r hr => ⟨100, g.pla r hr, Or.inr (Or.inl rfl)⟩, fun s hs => Or.inl ⟨g.sit s hs, fun r hr e => ?_⟩, fun r q s hr hq hs e => ?_, fun s hs => Or.inl ⟨g.lug s hs, fun r hr e => ?_⟩, fun r hr => Or.inl (h1 r hr).2, fun r hr => ?_, fun r hr => ?_, fun r hr => ?_, fun s hs => ?_, ⟨?_, ?_, ?_⟩, ?_, ?_⟩, fun q hq _ => g.pla q hq, g.looks⟩
  · rw [(h1 r hr).1, g.pla r hr]
  · rw [g.pla r hr] at e; exact ne s hs e
  · rw [g.pla r hr] at e; exact absurd e (ne s hs)
  · rw [(h1 r hr).2] at e; exact absurd e.symm (pu_ne1 (by omega))
  · rw [g.tur r hr]; exact h2 _ (by omega) (by omega)
  · rw [g.pas r hr]; exact h2 _ (by omega) (by omega)
  · rw [g.joi, h2 _ (by omega) (by omega)]
    rw [(by decide +kernel : ∀ r, r < 8 → bt 0 r = false) r (by omega)]; rfl
  · rw [g.sto, v0] at hs; omega
  · rw [g.sto]; exact h2 _ (by omega) (by omega)
  · rw [g.sto, v0]; rfl
  · rw [g.sto, v0]; omega
  · rw [g.tus]; exact h2 _ (by omega) (by omega)
  · rw [g.gif]; exact h2 _ (by omega) (by omega)
/-- what is seen of it only counts -/
theorem pu_RCc (h : pu_GP pl) {sit pla lug tur spe pas sit' pla' lug' tur' spe' pas' w w' : Nat → Int32} {joi tus gif sto : Int32} (hR : pu_RC pl sit pla lug tur spe pas joi tus gif sto w) (c1 : ∀ s, s < 20 → sit' s = sit s) (c2 : ∀ r, r < 8 → pla' r = pla r) (c3 : ∀ s, s < 20 → lug' s = lug s) (c4 : ∀ r, r < 8 → tur' r = tur r) (c5 : ∀ s, s < 12 → spe' s = spe s) (c6 : ∀ r, r < 8 → pas' r = pas r) (c7 : ∀ k, k < 56 → w' k = w k) : pu_RC pl sit' pla' lug' tur' spe' pas' joi tus gif sto w' := by
  have h8 := h.riders.2.2
  refine ⟨fun r hr => ?_, fun r hr => ?_, fun s hs => ?_, fun r q s hr hq hs e1 e2 => ?_, fun s hs => ?_, fun r hr => ?_, fun r hr => ?_, fun r hr => ?_, fun r hr => ?_, fun s hs => ?_, ⟨?_, hR.sto.2⟩, ?_, ?_⟩
  · rw [c7 r (by omega), c2 r (by omega)]; exact hR.pla r hr
  · rw [c2 r (by omega)]; exact hR.plv r hr
  · rcases hR.sit s hs with ⟨a, b⟩ | ⟨r, hr, a, b⟩
    · exact Or.inl ⟨by rw [c1 s hs, a], fun r hr => by rw [c2 r (by omega)]; exact b r hr⟩
    · exact Or.inr ⟨r, hr, by rw [c1 s hs, a], by rw [c2 r (by omega), b]⟩
  · rw [c2 r (by omega)] at e1
    rw [c2 q (by omega)] at e2
    exact hR.uni r q s hr hq hs e1 e2
  · rcases hR.lug s hs with ⟨a, b⟩ | ⟨r, hr, a, b⟩
    · exact Or.inl ⟨by rw [c3 s hs, a], fun r hr => by rw [c7 _ (by omega)]; exact b r hr⟩
    · exact Or.inr ⟨r, hr, by rw [c3 s hs, a], by rw [c7 _ (by omega), b]⟩
  · rcases hR.bag r hr with a | ⟨p, hp, a, b, c, d, e⟩
    · exact Or.inl (by rw [c7 _ (by omega), a])
    · exact Or.inr ⟨p, hp, a, b, by rw [c2 r (by omega), c], by rw [c7 _ (by omega), d], by rw [c1 _ (pu_x20 p hp).1, e]⟩
  · rw [c7 _ (by omega), c4 r (by omega)]; exact hR.tur r hr
  · rw [c7 _ (by omega), c6 r (by omega)]; exact hR.pas r hr
  · rw [c7 _ (by omega)]; exact hR.joi r hr
  · have := hR.sto.2.2
    rw [c7 _ (by omega), c5 s (by omega)]; exact hR.spe s hs
  · rw [c7 _ (by omega)]; exact hR.sto.1
  · rw [c7 _ (by omega)]; exact hR.tus
  · rw [c7 _ (by omega)]; exact hR.gif
theorem pu_cp {f g : Nat → Int32} {n k : Nat} (h : k < n) : va_cpy f g 0 0 n k = f k := by
  unfold va_cpy
  rw [if_pos ⟨by omega, by omega⟩, show 0 + (k - 0) = k by omega]
/-- a copy rides as its pattern -/
theorem pu_copy (h : pu_GP pl) (rd : RideT) {ro : RideT} : ∃ rd', f_X6_copyFrom rd ro = some rd' ∧ (∀ w w', pu_RR pl ro w → (∀ k, k < 56 → w' k = w k) → pu_RR pl rd' w') ∧ (∀ k, k < 9 → sc_looks (rd_scene rd') k = sc_looks (rd_scene ro) k) ∧ (∀ r, r < 8 → rd_place rd' r = rd_place ro r) ∧ rd_stops rd' = rd_stops ro := by
  refine ⟨_, rfl, fun w w' hR hw => ?_, fun k hk => pu_cp hk, fun r hr => pu_cp hr, rfl⟩
  exact pu_RCc h hR (fun s hs => pu_cp hs) (fun s hs => pu_cp hs) (fun s hs => pu_cp hs) (fun s hs => pu_cp hs) (fun s hs => pu_cp hs) (fun s hs => pu_cp hs) hw
theorem pu_copyO (h : pu_GP pl) {rd' ro : RideT} (a : ∀ k, k < 9 → sc_looks (rd_scene rd') k = sc_looks (rd_scene ro) k) (b : ∀ r, r < 8 → rd_place rd' r = rd_place ro r) (c : rd_stops rd' = rd_stops ro) : (∀ i, pu_ON pl ro i → pu_ON pl rd' i) ∧ (pu_LK pl ro → pu_LK pl rd') ∧ ∀ looks, pu_RL pl ro looks → pu_RL pl rd' looks := by
  have h8 := h.riders.2.2
  refine ⟨fun i hO q hq hc => ?_, fun hK r hr => ?_, fun looks hL => ⟨fun r hr => ?_, ?_, hL.2.2⟩⟩
  · rw [b q (by omega)]; rw [c] at hc; exact hO q hq hc
  · rw [a r (by omega)]; exact hK r hr
  · rw [a r (by omega)]; exact hL.1 r hr
  · rw [a 8 (by omega)]; exact hL.2.1
theorem pu_56 (m k : Nat) : (56 : Int32) * nI m + nI k = nI (56 * m + k) := by
  rw [show (56 : Int32) * nI m = nI (56 * m) from pk_mul 56 m, nI_add]
theorem pu_mark (mo : MOT) (w : WT) (kept : KeptT) {m : Nat} (hm : m < 4) (em : mo_marks mo = nI m) : ∃ kept', f_X12_mark mo w kept = some (nI m, mo_set_where (mo_set_trouble (mo_set_marks (mo_set_thrown mo 0) (nI (m + 1))) 0) (-1), kept') ∧ (∀ k, k < 56 → yKept_r kept' (56 * m + k) = yW_r w k) ∧ ∀ j, j < 56 * m → yKept_r kept' j = yKept_r kept j := by
  rw [f_X12_mark, f_X12_mark_b5]
  have em' : mo_marks (mo_set_thrown mo 0) = nI m := em
  rw [if_neg (by rw [em']; exact fun z => absurd ((nI_eq (a := m) (b := 4) (by omega) (by omega)).mp z) (by omega))]
  refine pu_for (fun n i z => f_X12_mark_b34 w n i (mo_set_thrown mo 0) z) 56 (fun i z => (∀ k, k < i → yKept_r z (56 * m + k) = yW_r w k) ∧ ∀ j, j < 56 * m → yKept_r z j = yKept_r kept j) (fun o => ∃ kept', o = some (nI m, mo_set_where (mo_set_trouble (mo_set_marks (mo_set_thrown mo 0) (nI (m + 1))) 0) (-1), kept') ∧ (∀ k, k < 56 → yKept_r kept' (56 * m + k) = yW_r w k) ∧ ∀ j, j < 56 * m → yKept_r kept' j = yKept_r kept j) ?_ ?_ 56 0 kept 4096 (by omega) (by omega) ⟨fun k hk => by omega, fun j _ => rfl⟩
  · intro n i z hi ⟨a, b⟩
    refine Or.inl ⟨yKept_set_r z (upd (yKept_r z) (56 * m + i) (yW_r w i)), ?_, ?_, ?_⟩
    · show f_X12_mark_b34 w (n + 1) (nI i) (mo_set_thrown mo 0) z = _
      rw [f_X12_mark_b34, if_neg (show ¬ (56 : Int32) ≤ nI i from nI_ge (a := i) (b := 56) hi (by omega)), em', pu_56, if_pos (pu_inn hi (by omega)), if_pos (pu_inn (by omega) (by omega)), nI_clamp (by omega), nI_clamp (by omega), f_X12_mark_b60, nI_1]
    · intro k hk
      show upd (yKept_r z) (56 * m + i) (yW_r w i) (56 * m + k) = _
      by_cases e : k = i
      · subst e; rw [pu_upS]
      · rw [pu_upN _ _ (by omega)]; exact a k (by omega)
    · intro j hj
      show upd (yKept_r z) (56 * m + i) (yW_r w i) j = _
      rw [pu_upN _ _ (by omega)]; exact b j hj
  · intro n z ⟨a, b⟩
    refine ⟨z, ?_, a, b⟩
    show f_X12_mark_b34 w (n + 1) (nI 56) (mo_set_thrown mo 0) z = _
    rw [f_X12_mark_b34, if_pos (show (56 : Int32) ≤ nI 56 by decide), em', f_X12_mark_b76, nI_1, show mo_marks (mo_set_marks (mo_set_thrown mo 0) (nI (m + 1))) = nI (m + 1) from rfl, show nI (m + 1) - (1 : Int32) = nI m from (pk_sub (a := m + 1) (b := 1) (by omega)).trans (by rw [Nat.add_sub_cancel])]
    rfl
theorem pu_markF (mo : MOT) (w : WT) (kept : KeptT) (em : mo_marks mo = 4) : f_X12_mark mo w kept = some (-1, pu_mt mo 3, kept) := by
  rw [f_X12_mark, f_X12_mark_b5, if_pos (show mo_marks (mo_set_thrown mo 0) = 4 from em)]
  rfl
theorem pu_back (mo : MOT) (w : WT) (kept : KeptT) {m i : Nat} (hm : m ≤ 4) (em : mo_marks mo = nI m) (hi : i < m) : ∃ w', f_X12_back mo w kept (nI i) = some (1, pu_mt mo 0, w') ∧ ∀ k, k < 56 → yW_r w' k = yKept_r kept (56 * i + k) := by
  rw [f_X12_back, f_X12_back_b5, if_neg (nI_pos (by omega)), if_pos (show nI i < mo_marks (mo_set_thrown mo 0) by rw [show mo_marks (mo_set_thrown mo 0) = nI m from em]; exact nI_lt hi (by omega))]
  refine pu_for (fun n v z => f_X12_back_b32 kept n (nI i) v (mo_set_thrown mo 0) z) 56 (fun v z => ∀ k, k < v → yW_r z k = yKept_r kept (56 * i + k)) (fun o => ∃ w', o = some (1, pu_mt mo 0, w') ∧ ∀ k, k < 56 → yW_r w' k = yKept_r kept (56 * i + k)) ?_ ?_ 56 0 w 4096 (by omega) (by omega) (fun k hk => by omega)
  · intro n v z hv a
    refine Or.inl ⟨yW_set_r z (upd (yW_r z) v (yKept_r kept (56 * i + v))), ?_, ?_⟩
    · show f_X12_back_b32 kept (n + 1) (nI i) (nI v) (mo_set_thrown mo 0) z = _
      rw [f_X12_back_b32, if_neg (show ¬ (56 : Int32) ≤ nI v from nI_ge (a := v) (b := 56) hv (by omega)), pu_56, if_pos (pu_inn (by omega) (by omega)), if_pos (pu_inn hv (by omega)), nI_clamp (by omega), nI_clamp (by omega), f_X12_back_b55, nI_1]
    · exact pu_upI (P := fun k x => x = yKept_r kept (56 * i + k)) rfl a
  · intro n z a
    refine ⟨z, ?_, a⟩
    show f_X12_back_b32 kept (n + 1) (nI i) (nI 56) (mo_set_thrown mo 0) z = _
    rw [f_X12_back_b32, if_pos (show (56 : Int32) ≤ nI 56 by decide)]
    rfl
theorem pu_backF (mo : MOT) (w : WT) (kept : KeptT) (x : Int32) (hx : x < 0 ∨ mo_marks mo ≤ x) : f_X12_back mo w kept x = some (0, pu_mt mo 1, w) := by
  rw [f_X12_back, f_X12_back_b5]
  by_cases c : x < 0
  · rw [if_pos c]; rfl
  · rw [if_neg c, if_neg (show ¬ x < mo_marks (mo_set_thrown mo 0) from fun z => Int32.lt_irrefl (fa_trans z (hx.resolve_left c)))]
    rfl
end PB
