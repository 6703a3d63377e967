/-! dealt: one run with looks as dealt, of both -/
section PK
variable {pl : PlanT} {bu : BusT}
/-- how often one was shunned at the end of a run; -1: it never sat -/
def pu_SV (rd : RideT) (r : Nat) : Int32 := if rd_turn rd r = 0 then -1 else if bt (rd_joined rd) r then rd_passed rd r else 99
/-- the class's k stops one after another -/
noncomputable def pu_12 (pl : PlanT) : Nat → RideT → Option RideT
  | 0, rd => some rd
  | k + 1, rd => (f_X6_halt rd pl).bind fun r => (f_X6_board r.2 pl).bind fun rd' => pu_12 pl k rd'
theorem pu_dealRun (h : pu_GP pl) (hB : pu_RB pl bu) (mo : MOT) (looks : LooksT) (k45 : Int32 → Int32 → Int32 → DealsT → RideT → Option (DealsT × RideT)) (v2 v3 v4 : Int32) (z0 : DealsT) : ∀ (k : Nat) (rd : RideT) (w : WT) (who : WhoT) (look : LookT) (v : Int32) (f1 f2 : Nat), pu_RR pl rd (yW_r w) → pu_RL pl rd (yLooks_r looks) → pu_ON pl rd 0 → vSt (rd_stops rd) + k = 12 → k < f1 → k < f2 →
    ∃ rd2 u w2 who2 look2, pu_12 pl k rd = some rd2 ∧ f_X1_countAll_b105 pl k45 f1 v2 v3 v4 (rd_stops rd) z0 rd = (if v4 = 0 then f_X1_countAll_b145 pl k45 v2 v3 v4 (1 : Int32) v2 z0 rd2 else f_X1_countAll_b145 pl k45 v2 v3 v4 (0 : Int32) v2 z0 rd2) ∧ f_X12_runs_b2 mo looks bu f2 v w who look = some (u, w2, who2, look2) ∧ pu_RR pl rd2 (yW_r w2)
  | _, _, _, _, _, _, 0, _, _, _, _, _, hf, _ => absurd hf (by omega)
  | _, _, _, _, _, _, _, 0, _, _, _, _, _, hf => absurd hf (by omega)
  | 0, rd, w, who, look, v, f1 + 1, f2 + 1, hR, hL, hO, hk, _, _ => by
    have hs := hR.sto
    have e12 : rd_stops rd = (12 : Int32) := by
      rw [hs.2.1, show vSt (rd_stops rd) = 12 by omega]; rfl
    rw [f_X1_countAll_b105, f_X12_runs_b2, if_pos pu_i52, pu_e52, hs.1, e12, if_pos (show (12 : Int32) ≤ 12 by decide), if_pos (show (12 : Int32) ≤ 12 by decide)]
    exact ⟨rd, v, w, who, look, rfl, rfl, rfl, hR⟩
  | k + 1, rd, w, who, look, v, f1 + 1, f2 + 1, hR, hL, hO, hk, h1, h2 => by
    have hs := hR.sto
    have n12 : ¬ (12 : Int32) ≤ rd_stops rd := by
      rw [hs.2.1, show (12 : Int32) = nI 12 from rfl, nI_leI (by omega) (by omega)]; omega
    obtain ⟨took, rd1, rd2, w2, who2, look2, a1, a2, a3, a4, a5, a6, a7, a8⟩ := pu_pass h hB hR hL hO mo who look (by omega)
    have vv : vSt (rd_stops rd2) = vSt (rd_stops rd) + 1 := by rw [a7]; exact nI_clamp (by omega)
    have e9 : rd_stops rd + 1 = rd_stops rd2 := by rw [a7]; exact Eq.trans (congrArg (fun x => x + 1) hs.2.1) (nI_1 _)
    obtain ⟨rd3, u3, w3, who3, look3, b0, b1, b2, b3⟩ := pu_dealRun h hB mo looks k45 v2 v3 v4 z0 k rd2 w2 who2 look2 (v + took) f1 f2 a4 a5 a6 (by omega) (by omega) (by omega)
    refine ⟨rd3, u3, w3, who3, look3, ?_, ?_, ?_, b3⟩
    · rw [pu_12, a1, pu_sb, a2, pu_sb]; exact b0
    · rw [f_X1_countAll_b105, if_neg n12, a1, pu_sb, f_X1_countAll_b120, a2, pu_sb, f_X1_countAll_b127, e9]
      exact b1
    · rw [f_X12_runs_b2, if_pos pu_i52, pu_e52, hs.1, if_neg n12, a3, pu_sb, f_X12_runs_b18, if_pos pu_i52, pu_e52, a4.sto.1, a7, show (40 : Int32) + nI (vSt (rd_stops rd) + 1) - 1 = nI (40 + vSt (rd_stops rd)) from (by rw [pu_a40]; exact nI_pred _), if_pos (pu_inn (by omega) (by omega)), nI_clamp (by omega), a8]
      exact b2
/-- one deal: what the class's ride and the reference's row hold at the end is the same for every rider -/
theorem pu_oneDeal (h : pu_GP pl) (hB : pu_RB pl bu) (mo : MOT) (looks : LooksT) {rd : RideT} {lk0 : Nat → Int32} (g : pu_BG pl (rd_set_scene rd (sc_set_looks (rd_scene rd) lk0))) (l8 : sc_looks (rd_scene rd) 8 = 5) (hl : ∀ r, r < vN pl → yLooks_r looks r = sc_looks (rd_scene rd) r) (hlk : ∀ r, r < vN pl → pu_lk (yLooks_r looks r)) (w : WT) (who : WhoT) (look : LookT) :
    ∃ rd2, pu_12 pl 12 rd = some rd2 ∧ (∀ (k45 : Int32 → Int32 → Int32 → DealsT → RideT → Option (DealsT × RideT)) (v2 v3 v4 : Int32) (z0 : DealsT), f_X1_countAll_b105 pl k45 4096 v2 v3 v4 0 z0 rd = (if v4 = 0 then f_X1_countAll_b145 pl k45 v2 v3 v4 (1 : Int32) v2 z0 rd2 else f_X1_countAll_b145 pl k45 v2 v3 v4 (0 : Int32) v2 z0 rd2)) ∧ ∀ r, r < vN pl → ∃ w2 who2 look2, f_X12_shunnedInRun mo w looks who look bu (nI r) = some (pu_SV rd2 r, w2, who2, look2) := by
  have hn := h.n31
  obtain ⟨w0, e0, x1, x2⟩ := pu_begM h hB mo w
  obtain ⟨y1, y2, _⟩ := pu_beg h g x1 x2
  have s0 : rd_stops rd = 0 := g.sto
  have key := fun k45 v2 v3 v4 z0 => pu_dealRun h hB mo looks k45 v2 v3 v4 z0 12 rd w0 who look 0 4096 4096 y1 ⟨hl, l8, hlk⟩ y2 (by rw [s0]; decide) (by omega) (by omega)
  obtain ⟨rd2, u, w2, who2, look2, k0, k1, k2, k3⟩ := key (fun _ _ _ _ _ => none) 0 0 0 (0, fun _ => 0, fun _ => 0, fun _ => 0)
  refine ⟨rd2, k0, ?_, ?_⟩
  · intro k45 v2 v3 v4 z0
    obtain ⟨rd3, u', w3, who3, look3, j0, j1, _, _⟩ := key k45 v2 v3 v4 z0
    have j0 := Option.some.inj (k0.symm.trans j0)
    subst j0
    rw [s0] at j1
    exact j1
  · intro r hr
    refine ⟨w2, who2, look2, ?_⟩
    rw [f_X12_shunnedInRun, e0, pu_sb, f_X12_shunnedInRun_b4, f_X12_runs, k2, pu_sb, f_X12_shunnedInRun_b9, pu_a16, if_pos (pu_inn (by omega) (by omega)), nI_clamp (by omega), k3.tur r hr, pu_shunM h k3 mo hr, pu_sb]
    unfold pu_SV
    by_cases c : rd_turn rd2 r = 0
    · rw [if_pos c, if_pos c]
    · rw [if_neg c, if_neg c]
/-- what one is shunned by with these looks: of the class and of the reference, whatever else they hold -/
def pu_VV (pl : PlanT) (bu : BusT) (lk V : Nat → Int32) : Prop :=
  (∀ (rd : RideT) (lk0 : Nat → Int32), pu_BG pl (rd_set_scene rd (sc_set_looks (rd_scene rd) lk0)) → sc_looks (rd_scene rd) 8 = 5 → (∀ r, r < vN pl → sc_looks (rd_scene rd) r = lk r) → ∃ rd2, (∀ (k45 : Int32 → Int32 → Int32 → DealsT → RideT → Option (DealsT × RideT)) (v2 v3 v4 : Int32) (z0 : DealsT), f_X1_countAll_b105 pl k45 4096 v2 v3 v4 0 z0 rd = (if v4 = 0 then f_X1_countAll_b145 pl k45 v2 v3 v4 (1 : Int32) v2 z0 rd2 else f_X1_countAll_b145 pl k45 v2 v3 v4 (0 : Int32) v2 z0 rd2)) ∧ ∀ r, r < vN pl → pu_SV rd2 r = V r) ∧
  ∀ (mo : MOT) (w : WT) (looks : LooksT) (who : WhoT) (look : LookT), (∀ r, r < vN pl → yLooks_r looks r = lk r) → ∀ r, r < vN pl → ∃ w2 who2 look2, f_X12_shunnedInRun mo w looks who look bu (nI r) = some (V r, w2, who2, look2)
theorem pu_VVex (h : pu_GP pl) (hB : pu_RB pl bu) (mo : MOT) (w : WT) (who : WhoT) (look : LookT) (looks : LooksT) (rdA : RideT) (lk : Nat → Int32) (hlk : ∀ r, r < vN pl → pu_lk (lk r)) : ∃ V, pu_VV pl bu lk V := by
  have hn := h.n31
  obtain ⟨rd0, _, g0⟩ := pu_begC h rdA
  have hl0 : ∀ r, r < vN pl → yLooks_r (yLooks_set_r looks lk) r = sc_looks (rd_scene (rd_set_scene rd0 (sc_set_looks (rd_scene rd0) (upd lk 8 5)))) r := by
    intro r hr
    show lk r = upd lk 8 5 r
    rw [pu_upN _ _ (by omega)]
  obtain ⟨rd2, a1, a2, a3⟩ := pu_oneDeal h hB mo (yLooks_set_r looks lk) (rd := rd_set_scene rd0 (sc_set_looks (rd_scene rd0) (upd lk 8 5))) (lk0 := sc_looks (rd_scene rd0)) g0 (show upd lk 8 5 8 = 5 from pu_upS _ _ _) hl0 hlk w who look
  have part2 : ∀ (mo : MOT) (w : WT) (looks : LooksT) (who : WhoT) (look : LookT), (∀ r, r < vN pl → yLooks_r looks r = lk r) → ∀ r, r < vN pl → ∃ w2 who2 look2, f_X12_shunnedInRun mo w looks who look bu (nI r) = some (pu_SV rd2 r, w2, who2, look2) := by
    intro mo' w' looks' who' look' hl'
    obtain ⟨rd3, b1, _, b3⟩ := pu_oneDeal h hB mo' looks' (rd := rd_set_scene rd0 (sc_set_looks (rd_scene rd0) (upd lk 8 5))) (lk0 := sc_looks (rd_scene rd0)) g0 (show upd lk 8 5 8 = 5 from pu_upS _ _ _) (fun r hr => Eq.trans (hl' r hr) (hl0 r hr)) (fun r hr => by rw [hl' r hr]; exact hlk r hr) w' who' look'
    have b1 := Option.some.inj (a1.symm.trans b1)
    subst b1
    exact b3
  refine ⟨pu_SV rd2, ?_, part2⟩
  intro rd lk0 g l8 hl
  obtain ⟨rd3, b1, b2, b3⟩ := pu_oneDeal h hB mo (yLooks_set_r looks lk) g l8 (fun r hr => (hl r hr).symm) hlk w who look
  refine ⟨rd3, b2, fun r hr => ?_⟩
  obtain ⟨_, _, _, c1⟩ := a3 r hr
  obtain ⟨_, _, _, c2⟩ := b3 r hr
  exact congrArg Prod.fst (Option.some.inj (c2.symm.trans c1))
end PK
