/-! the line of one who holds a seat -/
section QE
variable {c : Nat → Nat} {n : Nat} {tape : TapeT} {s e : Nat} {ps : ParserT} {mo : MOT} {pl : PlanT} {bu : BusT} {R N F H : Nat}
theorem pu_oh58 (ov : mo_sort mo = 5) (v1 v2 : Int32) (b : BusT) : f_X12_readHolds_b58 tape v1 v2 mo b = some (mo, b) := by rw [f_X12_readHolds_b58, pu_oRp ov, pu_sb, f_X12_readHolds_b68, if_pos ov]
theorem pu_oh44 (ov : mo_sort mo = 5) (v1 : Int32) (b : BusT) : f_X12_readHolds_b44 tape v1 mo b = some (mo, b) := by rw [f_X12_readHolds_b44, pu_oGo ov, pu_sb, f_X12_readHolds_b48, pu_oRp ov, pu_sb, pu_oh58 ov]
theorem pu_oh18 (ov : mo_sort mo = 5) (v1 : Int32) (b : BusT) : f_X12_readHolds_b18 tape v1 mo b = some (mo, b) := by rw [f_X12_readHolds_b18, if_pos ov, pu_oh44 ov]
theorem pu_fh83 (fz : ¬ ps_fault ps = 0) (v2 v3 v4 : Int32) (pl : PlanT) : f_X4_readHolder_b83 v2 v3 v4 ps pl = some (0, ps, pl) := by rw [f_X4_readHolder_b83, if_neg fz]
theorem pu_fh64 (fz : ¬ ps_fault ps = 0) (v2 v3 : Int32) (pl : PlanT) : f_X4_readHolder_b64 v2 v3 ps pl = some (0, ps, pl) := by rw [f_X4_readHolder_b64, if_neg fz, pu_fh83 fz]
/-- the seat is put down, in both -/
theorem pu_RDH (hD : pu_RD pl bu R N F H) (h4 : H < 4) {x y : Nat} (hx : x < N) (hy : y < 20) {z p : PlanT} {b : BusT} (Q : pu_QS_held pl z x (nI y)) (PF : pu_PFh z p) (P2 : pl_riders p = pl_riders z) (pc : pl_holderCount p = nI (H + 1)) (GF : pu_BFh bu b) (bH : bu_holds b = upd (bu_holds bu) x (nI y)) (bc : bu_holders b = nI (H + 1)) : pu_RD p b R N F (H + 1) := by
  have zf := Q.pq.fr
  refine ⟨?_, ?_, ?_, ?_, ⟨pc, bc, by omega⟩, ?_, ?_, ?_, ?_, ?_, ?_, ?_, ?_, ?_, ?_⟩
  · rw [PF.fhasCabin, PF.fcab, zf.fhasCabin, zf.fcab, GF.frows]
    rcases hD.cab with k | ⟨k1, k2⟩
    · exact Or.inl k
    · refine Or.inr ⟨k1, ?_⟩
      unfold pu_CB at k2 ⊢
      rw [GF.frows, GF.fform, GF.fdoor, GF.fpace, GF.frise, GF.fsun]
      exact k2
  · rw [PF.fruleCount, zf.fruleCount, GF.frules]; exact hD.rc
  · rw [PF.friderCount, Q.pq.rc, GF.friders]; exact hD.nc
  · rw [PF.ffriendCount, zf.ffriendCount, GF.ffriends]; exact hD.fc
  · rw [GF.fnames]; exact hD.nm
  · rw [PF.frules, zf.frules, GF.fwaysMany, GF.fway]; exact hD.wy
  · intro r hr
    have := hD.rd r hr
    unfold pu_R1 at this ⊢
    rw [P2, Q.gon, Q.goff, Q.grule, Q.glooks, Q.gage, Q.ghasBag, Q.gisProud, Q.v, bH, GF.fon, GF.foff, GF.frule, GF.flooks, GF.fage, GF.fhasBag, GF.fisProud]
    refine ⟨this.1, this.2.1, this.2.2.1, this.2.2.2.1, this.2.2.2.2.1, this.2.2.2.2.2.1, ?_⟩
    by_cases er : r = x
    · subst er
      rw [pk_us, pk_us]
      exact Or.inr ⟨y, hy, rfl, rfl⟩
    · rw [pk_un er, pk_un er]
      exact this.2.2.2.2.2.2
  · rw [P2, Q.gfriends]; exact hD.fb
  · rw [GF.ffriendA, GF.ffriendB]; exact hD.fr
  · rw [P2, Q.gfriends, GF.ffriendA, GF.ffriendB]; exact hD.ff
  · rw [PF.frules, zf.frules, GF.fname, GF.fnameSort, GF.fnameNumber]; exact hD.n1
  · rw [P2, Q.gname, GF.fname, GF.fnameSort, GF.fnameNumber]; exact hD.n2
  · rw [P2, Q.gname, PF.frules, zf.frules, GF.fname, GF.fnameSort, GF.fnameNumber]; exact hD.n3
  · rw [GF.fname]; exact hD.n4
theorem pu_lineH (t : pu_TX c n ps tape mo) (h : pu_PK c n s e ps mo) (hk : ps_kind ps = 1) (hz : ps_fault ps = 0) (hD : pu_RD pl bu R N F H) : pu_LR c n s ps mo (f_X4_readHolder ps pl) (f_X12_readHolds mo tape bu) := by
  obtain ⟨hc1, hc2, hc3⟩ := hD.hc
  have n8 := hD.nc.2.2
  rw [f_X4_readHolder, f_X12_readHolds, hc1, hc2]
  have e4 : (nI H < (4 : Int32)) ↔ H < 4 := nI_ltI (a := H) (b := 4) (by omega) (by omega)
  have q4 : (nI H = (4 : Int32)) ↔ H = 4 := nI_eq (a := H) (b := 4) (by omega) (by omega)
  by_cases h4 : H < 4
  rotate_left
  · obtain ⟨q, mq, f1, f2, f3⟩ := pu_fail h (k := 5) (by decide)
    refine Or.inr ⟨q, mq, pl, bu, ?_, ?_, f3⟩
    · rw [if_neg (fun k => h4 (e4.mp k)), f1, pu_sb, if_pos (Or.inl rfl)]
    · rw [f_X12_begins, if_pos (q4.mpr (by omega)), f2, pu_sb, f_X12_begins_b10, pu_oGo f3.so, pu_sb, f_X12_begins_b14, pu_sb, f_X12_readHolds_b12, pu_oKn f3.so hD, pu_sb, pu_oh18 f3.so]
  obtain ⟨s1, e1, q1, m1, a1, a2, a3, a4, a5, a6⟩ := pu_adv t h (by rw [hk]; decide) (by rw [hk]; decide)
  have t1 := t.fr a3 a4
  rw [if_pos (e4.mpr h4), a1, pu_sb, f_X12_begins, if_neg (fun k => by have := q4.mp k; omega), f_X12_begins_b10, a2, pu_sb, f_X12_begins_b14, pu_sb, f_X12_readHolds_b12]
  rcases pu_knownQ t1 a5 hD with ⟨x, hx, kx, g1, g2⟩ | ⟨q, mq, g1, g2, g3⟩
  rotate_left
  · rw [g1, g2, pu_sb, pu_sb, f_X4_readHolder_b24, if_pos rfl, pu_oh18 g3.so]
    exact Or.inr ⟨q, mq, pl, bu, rfl, rfl, g3.pre a3 a4⟩
  rw [g1, g2, pu_sb, pu_sb]
  show pu_LR c n s ps mo (f_X4_readHolder_b24 (nI x) q1 pl) (f_X12_readHolds_b18 tape (nI x) m1 bu)
  rw [f_X4_readHolder_b24, if_neg (pu_ne1 (by omega)), f_X12_readHolds_b18, if_neg a5.sort5, if_pos (pu_inn (show x < 8 by omega) (by omega)), if_pos (pu_inn (show x < 8 by omega) (by omega)), nI_clamp (by omega)]
  rcases (hD.rd x hx).held with ⟨l1, l2⟩ | ⟨hh, l0, l1, l2⟩
  rotate_left
  · rw [l1, l2, if_neg (pu_ne2 (by omega)), if_neg (pu_ne1 (by omega))]
    obtain ⟨q, mq, f1, f2, f3⟩ := pu_fail a5 (k := 3) (by decide)
    rw [f1, f2, pu_sb, pu_sb, if_pos (Or.inl rfl), pu_oh44 f3.so]
    exact Or.inr ⟨q, mq, pl, bu, rfl, rfl, f3.pre a3 a4⟩
  rw [l1, l2, if_pos rfl, if_pos rfl]
  obtain ⟨s2, e2, q2, m2, d1, d2, d3, d4, d5, d6⟩ := pu_adv t1 a5 (by rw [kx]; decide) (by rw [kx]; decide)
  replace d3 := pu_FP.tr a3 d3
  replace d4 := pu_FO.trr a4 d4
  have t2 := t.fr d3 d4
  rw [d1, pu_sb, f_X12_readHolds_b44, d2, pu_sb, f_X12_readHolds_b48]
  rcases pu_num t2 d5 (ix := 30) (by omega) (0 : Int32) (4 : Int32) with ⟨ro, q3, m3, vr, _, lr, j1, j2, j3⟩ | ⟨v, v2, q3, m3, j1, j2, j3⟩
  rotate_left
  · rw [j1, j2, pu_sb, pu_sb, pu_fh64 j3.nz, pu_oh58 j3.so]
    exact Or.inr ⟨q3, m3, pl, bu, rfl, rfl, j3.pre d3 d4⟩
  have ro4 : ro ≤ 4 := pu_hi vr (by omega) lr
  obtain ⟨s3, e3, u3, u4, u5, u6⟩ := j3
  replace u3 := pu_FP.tr d3 u3
  replace u4 := pu_FO.trr d4 u4
  have t3 := t.fr u3 u4
  rw [j1, j2, pu_sb, pu_sb, f_X4_readHolder_b64, if_pos (u3.fa.trans hz), f_X12_readHolds_b58]
  rcases pu_num t3 u5 (ix := 31) (by omega) (0 : Int32) (3 : Int32) with ⟨k, q4', m4, vk, _, lk, j4, j5, j6⟩ | ⟨v, v2, q4', m4, j4, j5, j6⟩
  rotate_left
  · rw [j4, j5, pu_sb, pu_sb, pu_fh83 j6.nz, f_X12_readHolds_b68, if_pos j6.so]
    exact Or.inr ⟨q4', m4, pl, bu, rfl, rfl, j6.pre u3 u4⟩
  have k3 : k ≤ 3 := pu_hi vk (by omega) lk
  obtain ⟨s4, e4', w3, w4, w5, w6⟩ := j6
  replace w3 := pu_FP.tr u3 w3
  replace w4 := pu_FO.trr u4 w4
  have e20 : (4 : Int32) * nI ro + nI k = nI (4 * ro + k) := by rw [show (4 : Int32) = nI 4 from rfl, pk_mul, nI_add]
  rw [j4, j5, pu_sb, pu_sb]
  show pu_LR c n s ps mo (f_X4_readHolder_b83 (nI x) (nI ro) (nI k) q4' pl) (f_X12_readHolds_b68 tape (nI x) (nI ro) (nI k) m4 bu)
  rw [f_X4_readHolder_b83, if_pos (w3.fa.trans hz), if_pos (pu_inn (show x < 8 by omega) (by omega)), nI_clamp (by omega), e20, f_X4_readHolder_b119, f_X12_readHolds_b68, if_neg w5.sort5, if_pos (pu_inn (show x < 8 by omega) (by omega)), nI_clamp (by omega), e20, f_X12_readHolds_b91, f_X12_readHolds_b104]
  have Q := pu_Qs_held pl x (nI (4 * ro + k))
  generalize pl_set_riders pl (qr_set_held (pl_riders pl) (upd (qr_held (pl_riders pl)) x (nI (4 * ro + k)))) = z at Q ⊢
  have pE : ∀ (p : PlanT) (x : Int32), pu_PFh p (pl_set_holderCount p x) ∧ pl_riders (pl_set_holderCount p x) = pl_riders p ∧ pl_holderCount (pl_set_holderCount p x) = x := fun p x => ⟨⟨rfl, rfl, rfl, rfl, rfl, rfl⟩, rfl, rfl⟩
  rw [Q.pq.fr.fholderCount, hc1, nI_1]
  obtain ⟨P1, P2, P3⟩ := pE z (nI (H + 1))
  generalize pl_set_holderCount z (nI (H + 1)) = p at P1 P2 P3 ⊢
  have bA : ∀ (b : BusT) (x : Nat → Int32), pu_BFh b (bu_set_holds b x) ∧ bu_holds (bu_set_holds b x) = x ∧ bu_holders (bu_set_holds b x) = bu_holders b := fun b x => ⟨⟨rfl, rfl, rfl, rfl, rfl, rfl, rfl, rfl, rfl, rfl, rfl, rfl, rfl, rfl, rfl, rfl, rfl, rfl, rfl, rfl, rfl, rfl, rfl, rfl⟩, rfl, rfl⟩
  have bC : ∀ (b : BusT) (x : Int32), pu_BFh b (bu_set_holders b x) ∧ bu_holders (bu_set_holders b x) = x ∧ bu_holds (bu_set_holders b x) = bu_holds b := fun b x => ⟨⟨rfl, rfl, rfl, rfl, rfl, rfl, rfl, rfl, rfl, rfl, rfl, rfl, rfl, rfl, rfl, rfl, rfl, rfl, rfl, rfl, rfl, rfl, rfl, rfl⟩, rfl, rfl⟩
  obtain ⟨A1, A2, A3⟩ := bA bu (upd (bu_holds bu) x (nI (4 * ro + k)))
  generalize bu_set_holds bu (upd (bu_holds bu) x (nI (4 * ro + k))) = b1 at A1 A2 A3 ⊢
  rw [A3, hc2, nI_1]
  obtain ⟨C1, C2, C3⟩ := bC b1 (nI (H + 1))
  generalize bu_set_holders b1 (nI (H + 1)) = b2 at C1 C2 C3 ⊢
  exact Or.inl ⟨q4', m4, p, b2, R, N, F, H + 1, rfl, rfl, ⟨s4, e4', w3, w4, w5, by omega⟩, pu_RDH hD h4 hx (by omega) Q P1 P2 P3 (A1.trans C1) (C3.trans A2) C2⟩
end QE
