/-! feed and bus, with what both hold -/
section QK
variable {L m : Nat} {tp : TopT} {ps : ParserT} {tape : TapeT} {mo : MOT} {pl pd : PlanT} {bu : BusT} {rd : RideT} {w : WT} {looks : LooksT} {fm : FilmsT} {de : DealsT} {kept : KeptT} {ft : FTakenT} {fs : FSeatT} {rk : Nat → RideT}
theorem pu_by8 (z : Int32) : (vp_nar .byte z.toInt8.toInt32).toInt8.toInt32 = vp_nar .byte z.toInt8.toInt32 := by
  rw [pk_vb, Int8.toInt8_toInt32]
theorem pu_fb8 (v1 v2 v3 v4 v5 : Int32) (i : Nat) : (pu_fb v1 v2 v3 v4 v5 i).toInt8.toInt32 = pu_fb v1 v2 v3 v4 v5 i := pu_by8 _
theorem pu_S_feed (h : pu_CM L tp ps tape mo) (v1 v2 v3 v4 v5 : Int32) : ∃ v L' ps' mo' tape', f_X10_feed tp ps v1 v2 v3 v4 v5 = some (v, ps') ∧ f_X12_feed mo tape v1 v2 v3 v4 v5 = some (v, mo', tape') ∧ pu_CM L' tp ps' tape' mo' ∧ mo_marks mo' = mo_marks mo ∧ mo_films mo' = mo_films mo := by
  have t := h.tp
  by_cases q : L + 20 ≤ 900
  · obtain ⟨T, a, b⟩ := pu_feedC tp t.le q v1 v2 v3 v4 v5
    obtain ⟨T2, a2, b2⟩ := pu_feedM t.ta q tape v1 v2 v3 v4 v5
    refine ⟨nI (L + 20), L + 20, _, _, _, a, a2, ⟨⟨q, rfl, rfl, fun j hj => ?_⟩, h.fa, h.tr, h.wh⟩, rfl, rfl⟩
    show T j = T2 j ∧ (T j).toInt8.toInt32 = T j
    rw [b j hj, b2 j hj]
    by_cases c : j < L
    · rw [if_pos c, if_pos c]; exact t.tx j c
    · rw [if_neg c, if_neg c]; exact ⟨rfl, pu_fb8 _ _ _ _ _ _⟩
  · rcases pu_feed tp t.l9 t.le t.ta (tape := tape) (fun j hj => (t.tx j hj).1) v1 v2 v3 v4 v5 with ⟨a, b⟩ | ⟨_, _, c, _⟩
    · exact ⟨-1, L, ps, mo_set_thrown mo 0, tape, a, b, h.th 0, rfl, rfl⟩
    · exact absurd c q
/-- bus, n none of the tape's -/
theorem pu_S_busR (h : pu_CM L tp ps tape mo) (pl pd : PlanT) (rd : RideT) (fm : FilmsT) (de : DealsT) {x : Int32} (hx : x < 0 ∨ ¬ x ≤ nI L) : f_X10_bus tp ps pl pd rd fm de x = some (-1, tp_set_latestTrouble tp 2, ps, pd, rd, fm, de, 0) ∧ f_X12_bus_r mo x = some (-1, pu_mt mo 2) ∧ pu_CM L (tp_set_latestTrouble tp 2) ps tape (pu_mt mo 2) := by
  obtain ⟨a, b⟩ := pu_busR h.tp tp pl pd rd fm de hx
  exact ⟨a, b, h.an (by decide)⟩
theorem pu_RM0 {pl : PlanT} {fm : FilmsT} {mo : MOT} (h1 : fm_count fm = 0) (h2 : mo_films mo = 0) (ft fs : Nat → Int32) : pu_RM pl fm mo ft fs := by
  have z : ∀ {f : Nat}, fm_count fm = nI f → f ≤ 12 → f = 0 := fun {f} e hf => by
    rw [h1] at e
    have := (nI_eq (a := 0) (b := f) (by omega) (by omega)).mp e
    omega
  exact ⟨⟨h1.trans h2.symm, 0, by omega, h1⟩, fun i f e hf hi => by have := z e hf; omega, fun i f e hf hi => by have := z e hf; omega⟩
/-- bus, the text read -/
theorem pu_S_busT (h : pu_CM L tp ps tape mo) (pl pd : PlanT) (rd : RideT) (fm : FilmsT) (de : DealsT) (w : WT) (looks : LooksT) (kept : KeptT) (ft : FTakenT) (fs : FSeatT) (rk : Nat → RideT) {k : Nat} (hk : k ≤ L) :
    (∃ q pl' mo' bu', f_X10_bus tp ps pl pd rd fm de (nI k) = some (-1, tp_set_latestTrouble tp 4, q, pl', rd, fm, de, 0) ∧ f_X12_bus mo tape w looks (nI k) = some (-1, mo', w, looks, bu', 0) ∧ pu_CM 0 (tp_set_latestTrouble tp 4) q tape mo' ∧ mo_marks mo' = mo_marks mo ∧ mo_films mo' = mo_films mo) ∨
    (∃ q pl' mo' bu' tp' rd' fm' de' w' looks' v, f_X10_bus tp ps pl pd rd fm de (nI k) = some (v, tp', q, pl', rd', fm', de', 1) ∧ f_X12_bus mo tape w looks (nI k) = some (v, mo', w', looks', bu', 1) ∧ pu_CM 0 tp' q tape mo' ∧ pu_YB 0 tp' pl' bu' rd' w' looks' fm' de' mo' kept ft fs rk) := by
  rcases pu_busT h.tp tp pl pd rd fm de w looks hk with ⟨q, pl', mo', bu', a1, a2, a3, a4, a5, a6, a7, a8, a9⟩ | ⟨q, pl', mo', bu', tp', rd', fm', de', w', looks', v, a1, a2, a3, a4, a5, a6, a7, a8, a9, b1, b2, b3, b4, b5, b6⟩
  · exact Or.inl ⟨q, pl', mo', bu', a1, a2, ⟨a3, a7.symm, a5.symm, Or.inl ⟨rfl, a6⟩⟩, a8, a9⟩
  · exact Or.inr ⟨q, pl', mo', bu', tp', rd', fm', de', w', looks', v, a1, a2, ⟨a3, b4.symm, a7.trans b2.symm, Or.inr ⟨by rw [a7]; decide, b3⟩⟩, ⟨a5, a4, by omega, a6, b5, fun i hi => absurd hi (by omega), pu_RM0 a8 b6 _ _, Or.inl a9⟩⟩
end QK
