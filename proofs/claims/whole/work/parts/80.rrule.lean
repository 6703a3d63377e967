/-! a new rule, both -/
section QA
variable {c : Nat → Nat} {n : Nat} {tape : TapeT} {s e : Nat} {ps : ParserT} {mo : MOT} {pl : PlanT} {bu : BusT} {R N F H : Nat}
theorem pu_oFr (ov : mo_sort mo = 5) (hD : pu_RD pl bu R N F H) (so nu : Int32) : f_X12_readFresh mo tape bu so nu = some (mo, bu) := by
  have h1 := hD.rc.2.2
  have h2 := hD.nc.2.2
  have e32 : f_X12_readFresh_b32 tape so nu mo bu = some (mo, bu) := by rw [f_X12_readFresh_b32, if_pos ov]
  rw [f_X12_readFresh, pu_oNa ov, pu_sb, if_pos rfl, pu_oWr ov, pu_sb, f_X12_readFresh_b12, pu_oWr ov, pu_sb, e32]
  rcases pu_findN (by omega) hD.nm (mo_word mo) with ⟨a, _⟩ | ⟨k, k1, a, _⟩
  · rw [a, pu_sb, if_pos rfl]
  · rw [a, pu_sb, if_neg (pu_ne1 (by omega))]
/-- the names with one more, of a rule -/
theorem pu_nmR (hD : pu_RD pl bu R N F H) {w : Int64} (fr : ∀ k, k < R + N → ¬ bu_name bu k = w) {nn : Nat → Int64} {ns nu : Nat → Int32} {rn : Nat → Int64} (e1 : nn = vp_updL (bu_name bu) (R + N) w) (e2 : ns = upd (bu_nameSort bu) (R + N) 0) (e3 : nu = upd (bu_nameNumber bu) (R + N) (nI R)) (e4 : rn = vp_updL (ru_name (pl_rules pl)) R w) :
    (∀ i, i < R + 1 → ∃ k, k < R + 1 + N ∧ nn k = rn i ∧ ns k = 0 ∧ nu k = nI i) ∧ (∀ r, r < N → ∃ k, k < R + 1 + N ∧ nn k = qr_name (pl_riders pl) r ∧ ns k = 1 ∧ nu k = nI r) ∧ (∀ k, k < R + 1 + N → (ns k = 0 ∧ ∃ i, i < R + 1 ∧ nu k = nI i ∧ nn k = rn i) ∨ (ns k = 1 ∧ ∃ r, r < N ∧ nu k = nI r ∧ nn k = qr_name (pl_riders pl) r)) ∧ ∀ k, k < R + 1 + N → ∀ j, j < R + 1 + N → nn k = nn j → k = j := by
  subst e1 e2 e3 e4
  have o1 : ∀ k, k < R + N → vp_updL (bu_name bu) (R + N) w k = bu_name bu k := fun k hk => pk_uLn (by omega)
  have o2 : ∀ k, k < R + N → upd (bu_nameSort bu) (R + N) 0 k = bu_nameSort bu k := fun k hk => pk_un (by omega)
  have o3 : ∀ k, k < R + N → upd (bu_nameNumber bu) (R + N) (nI R) k = bu_nameNumber bu k := fun k hk => pk_un (by omega)
  have o4 : ∀ i, i < R → vp_updL (ru_name (pl_rules pl)) R w i = ru_name (pl_rules pl) i := fun k hk => pk_uLn (by omega)
  refine ⟨fun i hi => ?_, fun r hr => ?_, fun k hk => ?_, fun k hk j hj => ?_⟩
  · by_cases ei : i = R
    · subst ei
      exact ⟨i + N, by omega, by rw [pk_uLs, pk_uLs], pk_us, pk_us⟩
    · obtain ⟨k, k1, k2, k3, k4⟩ := hD.n1 i (by omega)
      exact ⟨k, by omega, by rw [o1 k k1, o4 i (by omega)]; exact k2, by rw [o2 k k1]; exact k3, by rw [o3 k k1]; exact k4⟩
  · obtain ⟨k, k1, k2, k3, k4⟩ := hD.n2 r hr
    exact ⟨k, by omega, by rw [o1 k k1]; exact k2, by rw [o2 k k1]; exact k3, by rw [o3 k k1]; exact k4⟩
  · by_cases ek : k = R + N
    · subst ek
      exact Or.inl ⟨pk_us, R, by omega, pk_us, by rw [pk_uLs, pk_uLs]⟩
    · have k1 : k < R + N := by omega
      rw [o1 k k1, o2 k k1, o3 k k1]
      rcases hD.n3 k k1 with ⟨a, i, i1, i2, i3⟩ | a
      · exact Or.inl ⟨a, i, by omega, i2, by rw [o4 i i1]; exact i3⟩
      · exact Or.inr a
  · by_cases ek : k = R + N
    · by_cases ej : j = R + N
      · omega
      · rw [ek, pk_uLs, o1 j (by omega)]
        intro q; exact absurd q.symm (fr j (by omega))
    · by_cases ej : j = R + N
      · rw [ej, pk_uLs, o1 k (by omega)]
        intro q; exact absurd q (fr k (by omega))
      · rw [o1 k (by omega), o1 j (by omega)]
        exact hD.n4 k (by omega) j (by omega)
/-- the names with one more, of a rider -/
theorem pu_nmQ (hD : pu_RD pl bu R N F H) {w : Int64} (fr : ∀ k, k < R + N → ¬ bu_name bu k = w) {nn : Nat → Int64} {ns nu : Nat → Int32} {rn : Nat → Int64} (e1 : nn = vp_updL (bu_name bu) (R + N) w) (e2 : ns = upd (bu_nameSort bu) (R + N) 1) (e3 : nu = upd (bu_nameNumber bu) (R + N) (nI N)) (e4 : rn = vp_updL (qr_name (pl_riders pl)) N w) :
    (∀ i, i < R → ∃ k, k < R + (N + 1) ∧ nn k = ru_name (pl_rules pl) i ∧ ns k = 0 ∧ nu k = nI i) ∧ (∀ r, r < N + 1 → ∃ k, k < R + (N + 1) ∧ nn k = rn r ∧ ns k = 1 ∧ nu k = nI r) ∧ (∀ k, k < R + (N + 1) → (ns k = 0 ∧ ∃ i, i < R ∧ nu k = nI i ∧ nn k = ru_name (pl_rules pl) i) ∨ (ns k = 1 ∧ ∃ r, r < N + 1 ∧ nu k = nI r ∧ nn k = rn r)) ∧ ∀ k, k < R + (N + 1) → ∀ j, j < R + (N + 1) → nn k = nn j → k = j := by
  subst e1 e2 e3 e4
  have o1 : ∀ k, k < R + N → vp_updL (bu_name bu) (R + N) w k = bu_name bu k := fun k hk => pk_uLn (by omega)
  have o2 : ∀ k, k < R + N → upd (bu_nameSort bu) (R + N) 1 k = bu_nameSort bu k := fun k hk => pk_un (by omega)
  have o3 : ∀ k, k < R + N → upd (bu_nameNumber bu) (R + N) (nI N) k = bu_nameNumber bu k := fun k hk => pk_un (by omega)
  have o4 : ∀ i, i < N → vp_updL (qr_name (pl_riders pl)) N w i = qr_name (pl_riders pl) i := fun k hk => pk_uLn (by omega)
  refine ⟨fun r hr => ?_, fun i hi => ?_, fun k hk => ?_, fun k hk j hj => ?_⟩
  · obtain ⟨k, k1, k2, k3, k4⟩ := hD.n1 r hr
    exact ⟨k, by omega, by rw [o1 k k1]; exact k2, by rw [o2 k k1]; exact k3, by rw [o3 k k1]; exact k4⟩
  · by_cases ei : i = N
    · subst ei
      exact ⟨R + i, by omega, by rw [pk_uLs, pk_uLs], pk_us, pk_us⟩
    · obtain ⟨k, k1, k2, k3, k4⟩ := hD.n2 i (by omega)
      exact ⟨k, by omega, by rw [o1 k k1, o4 i (by omega)]; exact k2, by rw [o2 k k1]; exact k3, by rw [o3 k k1]; exact k4⟩
  · by_cases ek : k = R + N
    · subst ek
      exact Or.inr ⟨pk_us, N, by omega, pk_us, by rw [pk_uLs, pk_uLs]⟩
    · have k1 : k < R + N := by omega
      rw [o1 k k1, o2 k k1, o3 k k1]
      rcases hD.n3 k k1 with a | ⟨a, i, i1, i2, i3⟩
      · exact Or.inl a
      · exact Or.inr ⟨a, i, by omega, i2, by rw [o4 i i1]; exact i3⟩
  · by_cases ek : k = R + N
    · by_cases ej : j = R + N
      · omega
      · rw [ek, pk_uLs, o1 j (by omega)]
        intro q; exact absurd q.symm (fr j (by omega))
    · by_cases ej : j = R + N
      · rw [ej, pk_uLs, o1 k (by omega)]
        intro q; exact absurd q (fr k (by omega))
      · rw [o1 k (by omega), o1 j (by omega)]
        exact hD.n4 k (by omega) j (by omega)
theorem pu_rulePut (pl : PlanT) (R : Nat) (w : Int64) : ∃ p, (pl_set_rules (pl_set_rules pl (ru_set_name (pl_rules pl) (vp_updL (ru_name (pl_rules pl)) R w))) (ru_set_count (pl_rules (pl_set_rules pl (ru_set_name (pl_rules pl) (vp_updL (ru_name (pl_rules pl)) R w)))) (upd (ru_count (pl_rules (pl_set_rules pl (ru_set_name (pl_rules pl) (vp_updL (ru_name (pl_rules pl)) R w))))) R (0 : Int32)))) = p ∧ pu_PR pl p ∧ ru_name (pl_rules p) = vp_updL (ru_name (pl_rules pl)) R w ∧ ru_count (pl_rules p) = upd (ru_count (pl_rules pl)) R 0 ∧ ru_wanted (pl_rules p) = ru_wanted (pl_rules pl) := by
  have a := pu_PR1 pl (ru_set_name (pl_rules pl) (vp_updL (ru_name (pl_rules pl)) R w))
  generalize pl_set_rules pl (ru_set_name (pl_rules pl) (vp_updL (ru_name (pl_rules pl)) R w)) = p1 at a ⊢
  obtain ⟨a1, a2⟩ := a
  rw [a2]
  have b := pu_PR1 p1 (ru_set_count (ru_set_name (pl_rules pl) (vp_updL (ru_name (pl_rules pl)) R w)) (upd (ru_count (ru_set_name (pl_rules pl) (vp_updL (ru_name (pl_rules pl)) R w))) R 0))
  refine ⟨_, rfl, a1.trans b.1, ?_, ?_, ?_⟩
  · rw [b.2]; rfl
  · rw [b.2]; rfl
  · rw [b.2]; rfl
theorem pu_lineR (t : pu_TX c n ps tape mo) (h : pu_PK c n s e ps mo) (hk : ps_kind ps = 1) (hD : pu_RD pl bu R N F H) : pu_LR c n s ps mo (f_X4_readRule ps pl) (f_X12_readRule mo tape bu) := by
  obtain ⟨rc1, rc2, rc3⟩ := hD.rc
  have nc3 := hD.nc.2.2
  rw [f_X4_readRule, f_X12_readRule, rc1, rc2]
  have e4 : (nI R < (4 : Int32)) ↔ R < 4 := nI_ltI (a := R) (b := 4) (by omega) (by omega)
  have q4 : (nI R = (4 : Int32)) ↔ R = 4 := nI_eq (a := R) (b := 4) (by omega) (by omega)
  have over : ∀ {mq : MOT}, mo_sort mq = 5 → f_X12_readRule_b24 tape mq bu = some (mq, bu) := by
    intro mq ov
    rw [f_X12_readRule_b24, show f_X12_readRule_b28 tape 4096 1 0 mq bu = f_X12_readRule_b28 tape (4095 + 1) 1 0 mq bu from rfl, f_X12_readRule_b28, if_neg (show ¬ (1 : Int32) = 0 by decide), if_pos ov, f_X12_readRule_b161, if_pos ov]
  by_cases r4 : R < 4
  rotate_left
  · obtain ⟨q, mq, f1, f2, f3⟩ := pu_fail h (k := 5) (by decide)
    refine Or.inr ⟨q, mq, pl, bu, ?_, ?_, f3⟩
    · rw [if_neg (fun k => r4 (e4.mp k)), f1, pu_sb, if_pos (Or.inl rfl)]
    · rw [f_X12_begins, if_pos (q4.mpr (by omega)), f2, pu_sb, f_X12_begins_b10, pu_oGo f3.so, pu_sb, f_X12_begins_b14, pu_sb, f_X12_readRule_b12, pu_oFr f3.so hD, pu_sb, over f3.so]
  obtain ⟨s1, e1, q1, m1, a1, a2, a3, a4, a5, a6⟩ := pu_adv t h (by rw [hk]; decide) (by rw [hk]; decide)
  have t1 := t.fr a3 a4
  rw [if_pos (e4.mpr r4), a1, pu_sb, f_X12_begins, if_neg (fun k => by have := q4.mp k; omega), f_X12_begins_b10, a2, pu_sb, f_X12_begins_b14, pu_sb, f_X12_readRule_b12, rc2]
  rcases pu_fresh t1 a5 hD (show R + N < 12 by omega) 0 (nI R) with ⟨g1, g2, g3, g4, bu1, g5, g6, g7, g8, g9, g10⟩ | ⟨q, mq, g1, g2, g3⟩
  rotate_left
  · rw [g1, g2, pu_sb, pu_sb, if_pos rfl, over g3.so]
    exact Or.inr ⟨q, mq, pl, bu, rfl, rfl, g3.pre a3 a4⟩
  rw [g2, pu_sb, if_neg (show ¬ (1 : Int32) = 0 by decide), if_pos (pu_inn r4 (by omega)), nI_clamp (by omega), g5, g3]
  obtain ⟨s2, e2, q2, m2, d1, d2, d3, d4, d5, d6⟩ := pu_adv t1 a5 (by rw [g1]; decide) (by rw [g1]; decide)
  rw [d2, pu_sb, pu_sb, f_X12_readRule_b24]
  obtain ⟨p1, v1, v2, v3, v4, v5⟩ := pu_rulePut pl R (mo_word m1)
  rw [v1, f_X4_readRule_b51, show f_X4_readRule_b53 4096 R 0 q1 p1 = f_X4_readRule_b53 (4095 + 1) R (nI 0) q1 p1 from rfl, f_X4_readRule_b53, if_neg (show ¬ (4 : Int32) < nI 0 by decide), d1, pu_sb]
  have w3 := pu_FP.tr a3 d3
  have w4 := pu_FO.trr a4 d4
  have hb1 : bu_rules bu1 = nI R := g6.frules.trans rc2
  rcases pu_wayLoop (c := c) (n := n) (tape := tape) r4 4 0 p1 bu1 q2 m2 s2 e2 4095 4096 (by omega) (by omega) (by omega) (t.fr w3 w4) d5 (by rw [v4]; exact pu_upS _ _ _) hb1 (fun j hj => by omega) with ⟨q', mq, z2, b2, m', i1, i2, i3, i4, i5, i6, i7, i8, i9, i10, i11⟩ | ⟨q', mq, z2, b2, i1, i2, i3⟩
  rotate_left
  · exact Or.inr ⟨q', mq, z2, b2, i1, i2, i3.pre w3 w4⟩
  obtain ⟨s3, e3, o1, o2, o3, o4⟩ := i5
  have i4' : f_X12_readRule_b28 tape 4096 1 0 m2 bu1 = f_X12_readRule_b161 tape (nI m') mq b2 := i4
  rw [i3, i4', f_X4_readRule_b89, f_X12_readRule_b161, if_neg o3.sort5, i9, if_pos (pu_inn r4 (by omega)), nI_clamp (by omega), f_X12_readRule_b186, f_X12_readRule_b199]
  -- the plan and the bus at the end
  have pE : ∀ (p : PlanT) (x : Int32), pu_PFr p (pl_set_ruleCount p x) ∧ pl_rules (pl_set_ruleCount p x) = pl_rules p ∧ pl_ruleCount (pl_set_ruleCount p x) = x := fun p x => ⟨⟨rfl, rfl, rfl, rfl, rfl, rfl⟩, rfl, rfl⟩
  have rcz : pl_ruleCount z2 = nI R := (i6.rc.trans v2.rc).trans rc1
  rw [rcz, nI_1]
  obtain ⟨P1, P2, P3⟩ := pE z2 (nI (R + 1))
  generalize pl_set_ruleCount z2 (nI (R + 1)) = p3 at P1 P2 P3 ⊢
  have PF := (v2.fr.trans i6.fr).trans P1
  have bE1 : ∀ (b : BusT) (x : Nat → Int32), pu_BFr b (bu_set_waysMany b x) ∧ bu_waysMany (bu_set_waysMany b x) = x ∧ bu_way (bu_set_waysMany b x) = bu_way b ∧ bu_rules (bu_set_waysMany b x) = bu_rules b := fun b x => ⟨⟨rfl, rfl, rfl, rfl, rfl, rfl, rfl, rfl, rfl, rfl, rfl, rfl, rfl, rfl, rfl, rfl, rfl, rfl, rfl, rfl, rfl, rfl, rfl⟩, rfl, rfl, rfl⟩
  have bE2 : ∀ (b : BusT) (x : Int32), pu_BFr b (bu_set_rules b x) ∧ bu_waysMany (bu_set_rules b x) = bu_waysMany b ∧ bu_way (bu_set_rules b x) = bu_way b ∧ bu_rules (bu_set_rules b x) = x := fun b x => ⟨⟨rfl, rfl, rfl, rfl, rfl, rfl, rfl, rfl, rfl, rfl, rfl, rfl, rfl, rfl, rfl, rfl, rfl, rfl, rfl, rfl, rfl, rfl, rfl⟩, rfl, rfl, rfl⟩
  obtain ⟨B1, B2, B3, B4⟩ := bE1 b2 (upd (bu_waysMany b2) R (nI m'))
  generalize bu_set_waysMany b2 (upd (bu_waysMany b2) R (nI m')) = b3 at B1 B2 B3 B4 ⊢
  rw [B4, i9, nI_1]
  obtain ⟨C1, C2, C3, C4⟩ := bE2 b3 (nI (R + 1))
  generalize bu_set_rules b3 (nI (R + 1)) = b4 at C1 C2 C3 C4 ⊢
  have GF := (i8.fr.trans B1).trans C1
  have eW : ∀ x, bu_way b4 x = bu_way b2 x := fun x => by rw [C3, B3]
  have eM : bu_waysMany b4 = upd (bu_waysMany b2) R (nI m') := C2.trans B2
  obtain ⟨N1, N2, N3, N4⟩ := pu_nmR hD g4 (GF.fname.trans g7) (GF.fnameSort.trans g8) (GF.fnameNumber.trans g9) (show ru_name (pl_rules p3) = vp_updL (ru_name (pl_rules pl)) R (mo_word m1) by rw [P2, i7.nm, v3])
  refine Or.inl ⟨q', mq, p3, b4, R + 1, N, F, H, rfl, rfl, ⟨s3, e3, pu_FP.tr w3 o1, pu_FO.trr w4 o2, o3, by omega⟩, ?_, ⟨P3, C4, by omega⟩, ?_, ?_, ?_, ?_, ?_, ?_, ?_, ?_, ?_, N1, ?_, ?_, N4⟩
  · rw [PF.fhasCabin, PF.fcab, GF.frows.trans g6.frows]
    rcases hD.cab with k | ⟨k1, k2⟩
    · exact Or.inl k
    · refine Or.inr ⟨k1, ?_⟩
      unfold pu_CB at k2 ⊢
      rw [GF.frows.trans g6.frows, GF.fform.trans g6.fform, GF.fdoor.trans g6.fdoor, GF.fpace.trans g6.fpace, GF.frise.trans g6.frise, GF.fsun.trans g6.fsun]
      exact k2
  · rw [PF.friderCount, GF.friders.trans g6.friders]; exact hD.nc
  · rw [PF.ffriendCount, GF.ffriends.trans g6.ffriends]; exact hD.fc
  · rw [PF.fholderCount, GF.fholders.trans g6.fholders]; exact hD.hc
  · rw [GF.fnames, g10, show R + N + 1 = R + 1 + N by omega]
  · intro i hi
    rw [P2, eM]
    by_cases ei : i = R
    · subst ei
      refine ⟨m', i1, i2, i10, pu_upS _ _ _, fun j hj => ?_⟩
      rw [eW]
      exact i11 j hj
    · obtain ⟨m, k1, k2, k3, k4, k5⟩ := hD.wy i (by omega)
      refine ⟨m, k1, k2, ?_, ?_, fun j hj => ?_⟩
      · rw [i7.ct i ei, v4, pu_upN _ _ ei]; exact k3
      · rw [pu_upN _ _ ei, i8.wm i ei, g6.fwaysMany]; exact k4
      · rw [eW, i7.wt i ei, v5, i8.wy _ (by omega), g6.fway]; exact k5 j hj
  · intro r hr
    have := hD.rd r hr
    obtain ⟨k1, ⟨i, j1, j2, j3⟩, k3⟩ := this
    unfold pu_R1
    rw [PF.friders, GF.fon.trans g6.fon, GF.foff.trans g6.foff, GF.frule.trans g6.frule, GF.flooks.trans g6.flooks, GF.fage.trans g6.fage, GF.fhasBag.trans g6.fhasBag, GF.fisProud.trans g6.fisProud, GF.fholds.trans g6.fholds]
    exact ⟨k1, ⟨i, by omega, j2, j3⟩, k3⟩
  · rw [PF.friders]; exact hD.fb
  · rw [GF.ffriendA.trans g6.ffriendA, GF.ffriendB.trans g6.ffriendB]; exact hD.fr
  · rw [PF.friders, GF.ffriendA.trans g6.ffriendA, GF.ffriendB.trans g6.ffriendB]; exact hD.ff
  · rw [PF.friders]; exact N2
  · rw [PF.friders]; exact N3
end QA
