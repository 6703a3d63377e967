/-! the line of a rider -/
section QC
variable {c : Nat → Nat} {n : Nat} {tape : TapeT} {s e : Nat} {ps : ParserT} {mo : MOT} {pl : PlanT} {bu : BusT} {R N F H : Nat}
theorem pu_rnC {a b : PlanT} (h1 : pl_ruleCount a = pl_ruleCount b) (h2 : pl_rules a = pl_rules b) (w : Int64) : f_X5_ruleNamed a w = f_X5_ruleNamed b w := by
  have : ∀ f i, f_X5_ruleNamed_b2 a f w i = f_X5_ruleNamed_b2 b f w i := by
    intro f
    induction f with
    | zero => intro i; rfl
    | succ f ih => intro i; rw [f_X5_ruleNamed_b2, f_X5_ruleNamed_b2, h1, h2, ih]
  exact this _ _
theorem pu_oKn2 (ov : mo_sort mo = 5) {K : Nat} (hK : K ≤ 12) (hn : bu_names bu = nI K) (so : Int32) : f_X12_known mo bu so = some (0, mo) := by
  have e47 : ∀ v, f_X12_known_b47 bu v mo = some (0, mo) := fun v => by rw [f_X12_known_b47, if_pos ov]
  have e42 : ∀ v, f_X12_known_b42 bu v mo = some (0, mo) := fun v => by rw [f_X12_known_b42, pu_oWr ov, pu_sb, e47]
  rw [f_X12_known, pu_oNa ov, pu_sb, if_pos rfl, pu_oWr ov, pu_sb, f_X12_known_b12]
  rcases pu_findN hK hn (mo_word mo) with ⟨a, _⟩ | ⟨k, k1, a, _⟩
  · rw [a, pu_sb, if_pos rfl, e42]
  · rw [a, pu_sb, if_neg (pu_ne1 (by omega)), if_pos (pu_inn (show k < 12 by omega) (by omega))]
    by_cases q : bu_nameSort bu (nI k).toNatClampNeg = so
    · rw [if_pos q, e47]
    · rw [if_neg q, e42]
/-- a rule that must be known, while a rider is half told -/
theorem pu_knownR2 (t : pu_TX c n ps tape mo) (h : pu_PK c n s e ps mo) (h1 : R ≤ 4) (h2 : R + N ≤ 12) (rc : pl_ruleCount pl = nI R) {qn : Nat → Int64} (nm : bu_names bu = nI (R + N)) (n1 : ∀ i, i < R → ∃ k, k < R + N ∧ bu_name bu k = ru_name (pl_rules pl) i ∧ bu_nameSort bu k = 0 ∧ bu_nameNumber bu k = nI i) (n3 : ∀ k, k < R + N → (bu_nameSort bu k = 0 ∧ ∃ i, i < R ∧ bu_nameNumber bu k = nI i ∧ bu_name bu k = ru_name (pl_rules pl) i) ∨ (bu_nameSort bu k = 1 ∧ ∃ r, r < N ∧ bu_nameNumber bu k = nI r ∧ bu_name bu k = qn r)) (n4 : ∀ k, k < R + N → ∀ j, j < R + N → bu_name bu k = bu_name bu j → k = j) : (∃ i, i < R ∧ ps_kind ps = 1 ∧ f_X4_isName ps = some 1 ∧ f_X5_ruleNamed pl (ps_word ps) = some (nI i) ∧ f_X12_known mo bu 0 = some (nI i, mo)) ∨ ∃ q mq, ((f_X4_isName ps = some 0 ∧ f_X4_failed ps 1 = some (0, q)) ∨ (f_X4_isName ps = some 1 ∧ f_X5_ruleNamed pl (ps_word ps) = some (-1) ∧ f_X4_failed ps 2 = some (0, q))) ∧ f_X12_known mo bu 0 = some (0, mq) ∧ pu_ER ps mo q mq := by
  obtain ⟨b, b1, b2, b3⟩ := pu_isName t h
  rw [f_X12_known, b1, b2, pu_sb, pu_ifb]
  cases b
  · rw [pu_ff]
    obtain ⟨q, mq, f1, f2, f3⟩ := pu_fail h (k := 1) (by decide)
    refine Or.inr ⟨q, mq, Or.inl ⟨rfl, f1⟩, ?_, f3⟩
    have := pu_oKn2 (bu := bu) f3.so h2 nm 0
    rw [f_X12_known, pu_oNa f3.so, pu_sb, if_pos rfl, pu_oWr f3.so, pu_sb] at this
    rw [f2, pu_sb]; exact this
  rw [pu_tt, f_X12_known_b12]
  have hk := b3 rfl
  have hw := h.w1 hk
  have ew : ps_word ps = mo_word mo := hw.2.2.2.2.1.trans hw.2.2.2.2.2.symm
  have untold : ∀ v, ∃ q mq, f_X4_failed ps 2 = some (0, q) ∧ f_X12_known_b42 bu v mo = some (0, mq) ∧ pu_ER ps mo q mq := by
    intro v
    obtain ⟨q, mq, f1, f2, f3⟩ := pu_fail h (k := 2) (by decide)
    exact ⟨q, mq, f1, by rw [f_X12_known_b42, f2, pu_sb, f_X12_known_b47, if_pos f3.so], f3⟩
  rw [ew]
  have nR : (∃ i k, i < R ∧ k < R + N ∧ f_X5_ruleNamed pl (mo_word mo) = some (nI i) ∧ f_X11_find bu (mo_word mo) = some (nI k) ∧ bu_nameSort bu k = 0 ∧ bu_nameNumber bu k = nI i) ∨ (f_X5_ruleNamed pl (mo_word mo) = some (-1) ∧ (f_X11_find bu (mo_word mo) = some (-1) ∨ ∃ k, k < R + N ∧ f_X11_find bu (mo_word mo) = some (nI k) ∧ bu_nameSort bu k = 1)) := by
    rcases pu_ruleNamed h1 rc (mo_word mo) with ⟨a1, a2⟩ | ⟨i, a1, a2, a3⟩
    · refine Or.inr ⟨a1, ?_⟩
      rcases pu_findN h2 nm (mo_word mo) with ⟨b1, _⟩ | ⟨k, b1, b2, b3⟩
      · exact Or.inl b1
      · rcases n3 k b1 with ⟨_, j, d1, _, d3⟩ | ⟨d, _⟩
        · exact absurd (d3.symm.trans b3) (a2 j d1)
        · exact Or.inr ⟨k, b1, b2, d⟩
    · obtain ⟨k', d1, d2, d3, d4⟩ := n1 i a1
      rcases pu_findN h2 nm (mo_word mo) with ⟨_, b2⟩ | ⟨k, b1, b2, b3⟩
      · exact absurd (d2.trans a3) (b2 k' d1)
      · have ek := n4 k b1 k' d1 (b3.trans (d2.trans a3).symm)
        subst ek
        exact Or.inl ⟨i, k, a1, b1, a2, b2, d3, d4⟩
  rcases nR with ⟨i, k, hi, hk', q1, q2, q3, q4⟩ | ⟨q1, q2⟩
  · rw [q1, q2, pu_sb, if_neg (pu_ne1 (by omega)), if_pos (pu_inn (show k < 12 by omega) (by omega)), nI_clamp (by omega), q3, if_pos rfl, f_X12_known_b47, if_neg h.sort5, if_pos (pu_inn (show k < 12 by omega) (by omega)), nI_clamp (by omega), q4]
    exact Or.inl ⟨i, hi, hk, rfl, rfl, rfl⟩
  · rw [q1]
    rcases q2 with q2 | ⟨k, hk', q2, q3⟩
    · obtain ⟨q, mq, g1, g2, g3⟩ := untold (-1)
      rw [q2, pu_sb, if_pos rfl, g2]
      exact Or.inr ⟨q, mq, Or.inr ⟨rfl, rfl, g1⟩, rfl, g3⟩
    · obtain ⟨q, mq, g1, g2, g3⟩ := untold (nI k)
      rw [q2, pu_sb, if_neg (pu_ne1 (by omega)), if_pos (pu_inn (show k < 12 by omega) (by omega)), nI_clamp (by omega), q3, if_neg (show ¬ (1 : Int32) = 0 by decide), g2]
      exact Or.inr ⟨q, mq, Or.inr ⟨rfl, rfl, g1⟩, rfl, g3⟩
/-! over -/
theorem pu_oq102 (ov : mo_sort mo = 5) (v1 v2 v3 v4 v5 v6 v7 : Int32) (b : BusT) : f_X12_readRider_b102 tape v1 v2 v3 v4 v5 v6 v7 mo b = some (mo, b) := by rw [f_X12_readRider_b102, if_pos ov]
theorem pu_oq86 (ov : mo_sort mo = 5) (v1 v2 v3 v4 v5 : Int32) (b : BusT) : f_X12_readRider_b86 tape v1 v2 v3 v4 v5 mo b = some (mo, b) := by rw [f_X12_readRider_b86, pu_oEw ov, pu_sb, f_X12_readRider_b94, pu_oEw ov, pu_sb, pu_oq102 ov]
theorem pu_oq74 (ov : mo_sort mo = 5) (v1 v2 v3 v4 : Int32) (b : BusT) : f_X12_readRider_b74 tape v1 v2 v3 v4 mo b = some (mo, b) := by rw [f_X12_readRider_b74, pu_oRp ov, pu_sb, pu_oq86 ov]
theorem pu_oq62 (ov : mo_sort mo = 5) (v1 v2 v3 : Int32) (b : BusT) : f_X12_readRider_b62 tape v1 v2 v3 mo b = some (mo, b) := by rw [f_X12_readRider_b62, pu_oRp ov, pu_sb, pu_oq74 ov]
theorem pu_oq56 (ov : mo_sort mo = 5) (v1 v2 : Int32) (b : BusT) {K : Nat} (hK : K ≤ 12) (hn : bu_names b = nI K) : f_X12_readRider_b56 tape v1 v2 mo b = some (mo, b) := by rw [f_X12_readRider_b56, f_X12_readKnown, pu_oKn2 ov hK hn, pu_sb, f_X12_readKnown_b6, pu_oGo ov, pu_sb, f_X12_readKnown_b10, pu_sb, pu_oq62 ov]
theorem pu_oq49 (ov : mo_sort mo = 5) (v1 v2 : Int32) (b : BusT) {K : Nat} (hK : K ≤ 12) (hn : bu_names b = nI K) : f_X12_readRider_b49 tape v1 v2 mo b = some (mo, b) := by rw [f_X12_readRider_b49, pu_oNe ov, pu_sb, pu_oq56 ov _ _ _ hK hn]
theorem pu_oq36 (ov : mo_sort mo = 5) (v1 : Int32) (b : BusT) {K : Nat} (hK : K ≤ 12) (hn : bu_names b = nI K) : f_X12_readRider_b36 tape v1 mo b = some (mo, b) := by rw [f_X12_readRider_b36, pu_oRp ov, pu_sb, pu_oq49 ov _ _ _ hK hn]
theorem pu_oq25 (ov : mo_sort mo = 5) (b : BusT) {K : Nat} (hK : K ≤ 12) (hn : bu_names b = nI K) : f_X12_readRider_b25 tape mo b = some (mo, b) := by rw [f_X12_readRider_b25, pu_oRp ov, pu_sb, pu_oq36 ov _ _ hK hn]
theorem pu_fq160 (fz : ¬ ps_fault ps = 0) (i : Nat) (pl : PlanT) : f_X4_readRider_b160 i ps pl = some (0, ps, pl) := by rw [f_X4_readRider_b160, if_neg fz]
theorem pu_fq140 (fz : ¬ ps_fault ps = 0) (i : Nat) (pl : PlanT) : f_X4_readRider_b140 i ps pl = some (0, ps, pl) := by rw [f_X4_readRider_b140, if_neg fz, pu_fq160 fz]
theorem pu_fq100 (fz : ¬ ps_fault ps = 0) (i : Nat) (pl : PlanT) : f_X4_readRider_b100 i ps pl = some (0, ps, pl) := by rw [f_X4_readRider_b100, if_neg fz]
theorem pu_fq75 (fz : ¬ ps_fault ps = 0) (i : Nat) (pl : PlanT) : f_X4_readRider_b75 i ps pl = some (0, ps, pl) := by rw [f_X4_readRider_b75, if_neg fz, pu_fq100 fz]
theorem pu_narB (b : Bool) : vp_nar .boolean (pu_bI b) = pu_bI b := by cases b <;> rfl
theorem pu_01B (b : Bool) : kb_01 (pu_bI b) := by cases b; exact Or.inl rfl; exact Or.inr rfl
def pu_QV (pl : PlanT) (z : PlanT) (N : Nat) (w : Int64) : Prop := (pu_PQ pl z) ∧ (pu_UQ N (pl_riders pl) (pl_riders z)) ∧ (qr_name (pl_riders z) = vp_updL (qr_name (pl_riders pl)) N w) ∧ (qr_held (pl_riders z) N = -2) ∧ (qr_friends (pl_riders z) N = 0)
theorem pu_QV.pq {pl : PlanT} {z : PlanT} {N : Nat} {w : Int64} (h : pu_QV pl z N w) : pu_PQ pl z := h.1
theorem pu_QV.uq {pl : PlanT} {z : PlanT} {N : Nat} {w : Int64} (h : pu_QV pl z N w) : pu_UQ N (pl_riders pl) (pl_riders z) := h.2.1
theorem pu_QV.nm {pl : PlanT} {z : PlanT} {N : Nat} {w : Int64} (h : pu_QV pl z N w) : qr_name (pl_riders z) = vp_updL (qr_name (pl_riders pl)) N w := h.2.2.1
theorem pu_QV.he {pl : PlanT} {z : PlanT} {N : Nat} {w : Int64} (h : pu_QV pl z N w) : qr_held (pl_riders z) N = -2 := h.2.2.2.1
theorem pu_QV.fr {pl : PlanT} {z : PlanT} {N : Nat} {w : Int64} (h : pu_QV pl z N w) : qr_friends (pl_riders z) N = 0 := h.2.2.2.2
def pu_B1 (bu : BusT) (b : BusT) (R : Nat) (N : Nat) (w : Int64) : Prop := (pu_BFn bu b) ∧ (bu_name b = vp_updL (bu_name bu) (R + N) w) ∧ (bu_nameSort b = upd (bu_nameSort bu) (R + N) 1) ∧ (bu_nameNumber b = upd (bu_nameNumber bu) (R + N) (nI N)) ∧ (bu_names b = nI (R + N + 1)) ∧ (∀ k, k < R + N → ¬ bu_name bu k = w)
theorem pu_B1.fr {bu : BusT} {b : BusT} {R : Nat} {N : Nat} {w : Int64} (h : pu_B1 bu b R N w) : pu_BFn bu b := h.1
theorem pu_B1.nm {bu : BusT} {b : BusT} {R : Nat} {N : Nat} {w : Int64} (h : pu_B1 bu b R N w) : bu_name b = vp_updL (bu_name bu) (R + N) w := h.2.1
theorem pu_B1.so {bu : BusT} {b : BusT} {R : Nat} {N : Nat} {w : Int64} (h : pu_B1 bu b R N w) : bu_nameSort b = upd (bu_nameSort bu) (R + N) 1 := h.2.2.1
theorem pu_B1.nu {bu : BusT} {b : BusT} {R : Nat} {N : Nat} {w : Int64} (h : pu_B1 bu b R N w) : bu_nameNumber b = upd (bu_nameNumber bu) (R + N) (nI N) := h.2.2.2.1
theorem pu_B1.ns {bu : BusT} {b : BusT} {R : Nat} {N : Nat} {w : Int64} (h : pu_B1 bu b R N w) : bu_names b = nI (R + N + 1) := h.2.2.2.2.1
theorem pu_B1.new {bu : BusT} {b : BusT} {R : Nat} {N : Nat} {w : Int64} (h : pu_B1 bu b R N w) : ∀ k, k < R + N → ¬ bu_name bu k = w := h.2.2.2.2.2
theorem pu_LR.pre {ps' : ParserT} {mo' : MOT} {s1 : Nat} {o : Option (Int32 × ParserT × PlanT)} {o2 : Option (MOT × BusT)} (f : pu_FP ps ps') (g : pu_FO mo mo') (hs : s ≤ s1) (h : pu_LR c n s1 ps' mo' o o2) : pu_LR c n s ps mo o o2 := by
  rcases h with ⟨q, mq, pl', bu', R, N, F, H, a1, a2, ⟨s', e', b1, b2, b3, b4⟩, a4⟩ | ⟨q, mq, pl', bu', a1, a2, a3⟩
  · exact Or.inl ⟨q, mq, pl', bu', R, N, F, H, a1, a2, ⟨s', e', pu_FP.tr f b1, pu_FO.trr g b2, b3, by omega⟩, a4⟩
  · exact Or.inr ⟨q, mq, pl', bu', a1, a2, a3.pre f g⟩
/-- the new rider stands in both -/
theorem pu_RDQ (hD : pu_RD pl bu R N F H) (n8 : N < 8) {w : Int64} {bu1 b2 : BusT} {p : PlanT} {a b i lo ag : Nat} {bb pb : Bool} (hB : pu_B1 bu bu1 R N w) (B2 : pu_BQ N bu1 b2 (nI a) (nI b) (nI i) (nI lo) (nI ag) (pu_bI bb) (pu_bI pb)) {za : PlanT} (V : pu_QV pl za N w) (Von : qr_on (pl_riders za) N = nI a) (Voff : qr_off (pl_riders za) N = nI b) (Vrule : qr_rule (pl_riders za) N = nI i) (Vlooks : qr_looks (pl_riders za) N = nI lo) (Vage : qr_age (pl_riders za) N = nI ag) (Vbag : qr_hasBag (pl_riders za) N = pu_bI bb) (Vpro : qr_isProud (pl_riders za) N = pu_bI pb) (a10 : a ≤ 10) (ab : a < b) (b11 : b ≤ 11) (hi : i < R) (lo9 : lo ≤ 9) (ag99 : ag ≤ 99) (P1 : pu_PFq za p) (P2 : pl_riders p = pl_riders za) (P3 : pl_riderCount p = nI (N + 1)) : pu_RD p b2 R (N + 1) F H := by
  obtain ⟨rc1, rc2, rc3⟩ := hD.rc
  obtain ⟨nc1, nc2, nc3⟩ := hD.nc
  have PF := V.pq.fr.trans P1
  have GF := B2.fr
  have UQa := V.uq
  have Vname := V.nm
  have Vheld := V.he
  have Vfri := V.fr
  have g6 := hB.fr
  have g10 := hB.ns
  obtain ⟨N1, N2, N3, N4⟩ := pu_nmQ hD hB.new hB.nm hB.so hB.nu (rn := vp_updL (qr_name (pl_riders pl)) N w) rfl
  refine ⟨?_, ?_, ⟨P3, B2.ri, by omega⟩, ?_, ?_, ?_, ?_, ?_, ?_, ?_, ?_, ?_, ?_, ?_, ?_⟩
  · rw [PF.fhasCabin, PF.fcab, GF.frows.trans g6.frows]
    rcases hD.cab with k | ⟨k1, k2⟩
    · exact Or.inl k
    · refine Or.inr ⟨k1, ?_⟩
      unfold pu_CB at k2 ⊢
      rw [GF.frows.trans g6.frows, GF.fform.trans g6.fform, GF.fdoor.trans g6.fdoor, GF.fpace.trans g6.fpace, GF.frise.trans g6.frise, GF.fsun.trans g6.fsun]
      exact k2
  · rw [PF.fruleCount, GF.frules.trans g6.frules]; exact hD.rc
  · rw [PF.ffriendCount, GF.ffriends.trans g6.ffriends]; exact hD.fc
  · rw [PF.fholderCount, GF.fholders.trans g6.fholders]; exact hD.hc
  · rw [GF.fnames, g10, show R + N + 1 = R + (N + 1) by omega]
  · rw [PF.frules, GF.fwaysMany.trans g6.fwaysMany, GF.fway.trans g6.fway]; exact hD.wy
  · intro r hr
    rw [P2]
    by_cases er : r = N
    · subst er
      unfold pu_R1
      rw [Von, Voff, Vrule, Vlooks, Vage, Vbag, Vpro, Vheld, B2.bon, B2.boff, B2.brule, B2.blooks, B2.bage, B2.bholds, B2.bhasBag, B2.bisProud, pk_us, pk_us, pk_us, pk_us, pk_us, pk_us, pk_us, pk_us, pu_narB, pu_narB]
      exact ⟨⟨a, b, a10, ab, b11, rfl, rfl, rfl, rfl⟩, ⟨i, hi, rfl, rfl⟩, ⟨lo, by omega, rfl, rfl⟩, ⟨ag, ag99, rfl, rfl⟩, ⟨pu_01B bb, rfl⟩, ⟨pu_01B pb, rfl⟩, Or.inl ⟨rfl, rfl⟩⟩
    · have := hD.rd r (by omega)
      unfold pu_R1 at this ⊢
      rw [UQa.uon r er, UQa.uoff r er, UQa.urule r er, UQa.ulooks r er, UQa.uage r er, UQa.uhasBag r er, UQa.uisProud r er, UQa.uheld r er, B2.bon, B2.boff, B2.brule, B2.blooks, B2.bage, B2.bholds, B2.bhasBag, B2.bisProud, pk_un er, pk_un er, pk_un er, pk_un er, pk_un er, pk_un er, pk_un er, pk_un er, g6.fon, g6.foff, g6.frule, g6.flooks, g6.fage, g6.fholds, g6.fhasBag, g6.fisProud]
      exact this
  · intro r hr q hq
    rw [P2] at hq
    by_cases er : r = N
    · subst er
      rw [Vfri, b_0] at hq
      exact absurd hq (by decide)
    · rw [UQa.ufriends r er] at hq
      have := hD.fb r (by omega) q hq
      omega
  · intro k hk
    rw [GF.ffriendA.trans g6.ffriendA, GF.ffriendB.trans g6.ffriendB]
    obtain ⟨x, y, x1, y1, x2, y2⟩ := hD.fr k hk
    exact ⟨x, y, by omega, by omega, x2, y2⟩
  · intro r hr q hq
    rw [P2, GF.ffriendA.trans g6.ffriendA, GF.ffriendB.trans g6.ffriendB]
    have far : ∀ k, k < F → ¬ bu_friendA bu k = nI N ∧ ¬ bu_friendB bu k = nI N := by
      intro k hk
      obtain ⟨x, y, x1, y1, x2, y2⟩ := hD.fr k hk
      rw [x2, y2]
      exact ⟨fun z => by have := (nI_eq (a := x) (b := N) (by omega) (by omega)).mp z; omega, fun z => by have := (nI_eq (a := y) (b := N) (by omega) (by omega)).mp z; omega⟩
    by_cases er : r = N
    · subst er
      rw [Vfri, b_0]
      refine ⟨fun z => absurd z (by decide), ?_⟩
      rintro ⟨k, hk, z | z⟩
      · exact absurd z.1 (far k hk).1
      · exact absurd z.2 (far k hk).2
    · rw [UQa.ufriends r er]
      by_cases eq : q = N
      · subst eq
        refine ⟨fun z => ?_, ?_⟩
        · have := hD.fb r (by omega) _ z; omega
        · rintro ⟨k, hk, z | z⟩
          · exact absurd z.2 (far k hk).2
          · exact absurd z.1 (far k hk).1
      · exact hD.ff r (by omega) q (by omega)
  · rw [PF.frules, GF.fname, GF.fnameSort, GF.fnameNumber]; exact N1
  · rw [P2, Vname, GF.fname, GF.fnameSort, GF.fnameNumber]; exact N2
  · rw [P2, Vname, PF.frules, GF.fname, GF.fnameSort, GF.fnameNumber]; exact N3
  · rw [GF.fname]; exact N4
/-- from the bag on -/
theorem pu_lq160 (hD : pu_RD pl bu R N F H) (n8 : N < 8) {w : Int64} {bu1 : BusT} {a b i lo ag : Nat} (hB : pu_B1 bu bu1 R N w) {z8 : PlanT} (V : pu_QV pl z8 N w) (Von : qr_on (pl_riders z8) N = nI a) (Voff : qr_off (pl_riders z8) N = nI b) (Vrule : qr_rule (pl_riders z8) N = nI i) (Vlooks : qr_looks (pl_riders z8) N = nI lo) (Vage : qr_age (pl_riders z8) N = nI ag) (a10 : a ≤ 10) (ab : a < b) (b11 : b ≤ 11) (hi : i < R) (lo9 : lo ≤ 9) (ag99 : ag ≤ 99) (t : pu_TX c n ps tape mo) (h : pu_PK c n s e ps mo) (hz : ps_fault ps = 0) {s0 : Nat} (hs : s0 < s) : pu_LR c n s0 ps mo (f_X4_readRider_b160 N ps z8) (f_X12_readRider_b86 tape (nI a) (nI b) (nI i) (nI lo) (nI ag) mo bu1) := by
  obtain ⟨nc1, nc2, nc3⟩ := hD.nc
  rw [f_X4_readRider_b160, if_pos hz, f_X12_readRider_b86]
  obtain ⟨bb, q9, m9, l7, l8, s9, e9, r3, r4, r5, r6⟩ := pu_may t h (ix := 23) (by omega)
  rw [l7, l8, pu_sb, pu_sb, if_pos (pu_01B bb), f_X12_readRider_b94]
  have k9 := pu_Qs_hasBag z8 N (pu_bI bb)
  generalize pl_set_riders z8 (qr_set_hasBag (pl_riders z8) (upd (qr_hasBag (pl_riders z8)) N (pu_bI bb))) = z9 at k9 ⊢
  have t9 := t.fr r3 r4
  obtain ⟨pb, qa, ma, l9, l10, sa, ea, r7, r8, r9, r10⟩ := pu_may t9 r5 (ix := 24) (by omega)
  rw [f_X4_readRider_b179, l9, l10, pu_sb, pu_sb, if_pos (pu_01B pb), f_X4_readRider_b189]
  have ka := pu_Qs_isProud z9 N (pu_bI pb)
  generalize pl_set_riders z9 (qr_set_isProud (pl_riders z9) (upd (qr_isProud (pl_riders z9)) N (pu_bI pb))) = za at ka ⊢
  obtain ⟨b2, B1, B2⟩ := pu_busPut (tape := tape) bu1 r9.sort5 n8 (hB.fr.friders.trans nc2) (nI a) (nI b) (nI i) (nI lo) (nI ag) (pu_bI bb) (pu_bI pb)
  rw [B1]
  have Va : pu_QV pl za N w := ⟨(V.pq.trans k9.pq).trans ka.pq, (V.uq.trans k9.uq).trans ka.uq, by rw [ka.gname, k9.gname]; exact V.nm, by rw [ka.gheld, k9.gheld]; exact V.he, by rw [ka.gfriends, k9.gfriends]; exact V.fr⟩
  have pE : ∀ (p : PlanT) (x : Int32), pu_PFq p (pl_set_riderCount p x) ∧ pl_riders (pl_set_riderCount p x) = pl_riders p ∧ pl_riderCount (pl_set_riderCount p x) = x := fun p x => ⟨⟨rfl, rfl, rfl, rfl, rfl, rfl⟩, rfl, rfl⟩
  rw [Va.pq.rc.trans nc1, nI_1]
  obtain ⟨P1, P2, P3⟩ := pE za (nI (N + 1))
  generalize pl_set_riderCount za (nI (N + 1)) = p at P1 P2 P3 ⊢
  refine Or.inl ⟨qa, ma, p, b2, R, N + 1, F, H, rfl, rfl, ⟨sa, ea, pu_FP.tr r3 r7, pu_FO.trr r4 r8, r9, by omega⟩, ?_⟩
  exact pu_RDQ hD n8 hB B2 Va (by rw [ka.gon, k9.gon]; exact Von) (by rw [ka.goff, k9.goff]; exact Voff) (by rw [ka.grule, k9.grule]; exact Vrule) (by rw [ka.glooks, k9.glooks]; exact Vlooks) (by rw [ka.gage, k9.gage]; exact Vage) (by rw [ka.ghasBag, k9.v]; exact pk_us) (by rw [ka.v]; exact pk_us) a10 ab b11 hi lo9 ag99 P1 P2 P3
/-- from the looks on -/
theorem pu_lq140 (hD : pu_RD pl bu R N F H) (n8 : N < 8) {w : Int64} {bu1 : BusT} {a b i : Nat} (hB : pu_B1 bu bu1 R N w) {z6 : PlanT} (V : pu_QV pl z6 N w) (Von : qr_on (pl_riders z6) N = nI a) (Voff : qr_off (pl_riders z6) N = nI b) (Vrule : qr_rule (pl_riders z6) N = nI i) (a10 : a ≤ 10) (ab : a < b) (b11 : b ≤ 11) (hi : i < R) (t : pu_TX c n ps tape mo) (h : pu_PK c n s e ps mo) (hz : ps_fault ps = 0) : pu_LR c n s ps mo ((f_X4_numberBehind ps 28 (0 : Int32) (9 : Int32)).bind fun r14 => f_X4_readRider_b140 N r14.2 (pl_set_riders z6 (qr_set_looks (pl_riders z6) (upd (qr_looks (pl_riders z6)) N r14.1)))) (f_X12_readRider_b62 tape (nI a) (nI b) (nI i) mo bu1) := by
  rw [f_X12_readRider_b62]
  rcases pu_num t h (ix := 28) (by omega) (0 : Int32) (9 : Int32) with ⟨lo, q7, m7, vl, _, ll, l1, l2, l3⟩ | ⟨v, v2, q7, m7, l1, l2, l3⟩
  rotate_left
  · rw [l1, l2, pu_sb, pu_sb, pu_fq140 l3.nz, pu_oq74 l3.so]
    exact Or.inr ⟨q7, m7, _, _, rfl, rfl, l3⟩
  have lo9 : lo ≤ 9 := pu_hi vl (by omega) ll
  rw [l1, l2, pu_sb, pu_sb]
  have k7 := pu_Qs_looks z6 N (nI lo)
  generalize pl_set_riders z6 (qr_set_looks (pl_riders z6) (upd (qr_looks (pl_riders z6)) N (nI lo))) = z7 at k7 ⊢
  obtain ⟨s7, e7, o3, o4, o5, o6⟩ := l3
  have t7 := t.fr o3 o4
  rw [f_X4_readRider_b140, if_pos (o3.fa.trans hz), f_X12_readRider_b74]
  rcases pu_num t7 o5 (ix := 29) (by omega) (0 : Int32) (99 : Int32) with ⟨ag, q8', m8, vg, _, lg, l4, l5, l6⟩ | ⟨v, v2, q8', m8, l4, l5, l6⟩
  rotate_left
  · rw [l4, l5, pu_sb, pu_sb, pu_fq160 l6.nz, pu_oq86 l6.so]
    exact Or.inr ⟨q8', m8, _, _, rfl, rfl, l6.pre o3 o4⟩
  have ag99 : ag ≤ 99 := pu_hi vg (by omega) lg
  rw [l4, l5, pu_sb, pu_sb]
  have k8 := pu_Qs_age z7 N (nI ag)
  generalize pl_set_riders z7 (qr_set_age (pl_riders z7) (upd (qr_age (pl_riders z7)) N (nI ag))) = z8 at k8 ⊢
  obtain ⟨s8, e8', p3, p4, p5, p6⟩ := l6
  replace p3 := pu_FP.tr o3 p3
  replace p4 := pu_FO.trr o4 p4
  have t8 := t.fr p3 p4
  exact (pu_lq160 hD n8 hB (z8 := z8) ⟨(V.pq.trans k7.pq).trans k8.pq, (V.uq.trans k7.uq).trans k8.uq, by rw [k8.gname, k7.gname]; exact V.nm, by rw [k8.gheld, k7.gheld]; exact V.he, by rw [k8.gfriends, k7.gfriends]; exact V.fr⟩ (by rw [k8.gon, k7.gon]; exact Von) (by rw [k8.goff, k7.goff]; exact Voff) (by rw [k8.grule, k7.grule]; exact Vrule) (by rw [k8.glooks, k7.v]; exact pk_us) (by rw [k8.v]; exact pk_us) a10 ab b11 hi lo9 ag99 t8 p5 (p3.fa.trans hz) (show s < s8 by omega)).pre p3 p4 (Nat.le_refl _)
/-- from 'by' on -/
theorem pu_lq100 (hD : pu_RD pl bu R N F H) (n8 : N < 8) {w : Int64} {bu1 : BusT} {a b : Nat} (hB : pu_B1 bu bu1 R N w) {z5 : PlanT} (V : pu_QV pl z5 N w) (Von : qr_on (pl_riders z5) N = nI a) (Voff : qr_off (pl_riders z5) N = nI b) (a10 : a ≤ 10) (ab : a < b) (b11 : b ≤ 11) (t : pu_TX c n ps tape mo) (h : pu_PK c n s e ps mo) (hz : ps_fault ps = 0) : pu_LR c n s ps mo (f_X4_readRider_b100 N ps z5) (f_X12_readRider_b49 tape (nI a) (nI b) mo bu1) := by
  obtain ⟨rc1, rc2, rc3⟩ := hD.rc
  have n12 : R + N + 1 ≤ 12 := by omega
  have g10 := hB.ns
  rw [f_X4_readRider_b100, if_pos hz, f_X12_readRider_b49]
  rcases pu_need t h (ix := 27) (by omega) with ⟨q5, m5, h7, h8, h9⟩ | ⟨q5, m5, h7, h8, h9⟩
  rotate_left
  · rw [h7, h8, pu_sb, pu_sb, if_pos rfl, pu_oq56 h9.so _ _ _ n12 g10]
    exact Or.inr ⟨q5, m5, _, _, rfl, rfl, h9⟩
  rw [h7, h8, pu_sb, pu_sb, if_neg (show ¬ (1 : Int32) = 0 by decide), f_X12_readRider_b56]
  obtain ⟨s5, e5, y3, y4, y5, y6⟩ := h9
  have t5 := t.fr y3 y4
  obtain ⟨N1, N2, N3, N4⟩ := pu_nmQ hD hB.new hB.nm hB.so hB.nu (rn := vp_updL (qr_name (pl_riders pl)) N w) rfl
  have rz5 : pl_ruleCount z5 = nI R := V.pq.fr.fruleCount.trans rc1
  have ez5 : pl_rules z5 = pl_rules pl := V.pq.fr.frules
  rw [f_X4_readRuleOf, f_X12_readKnown]
  rcases pu_knownR2 t5 y5 rc3 (show R + (N + 1) ≤ 12 by omega) rz5 (by rw [g10, show R + N + 1 = R + (N + 1) by omega]) (by rw [ez5]; exact N1) (by rw [ez5]; exact N3) N4 with ⟨i, hi, ki, i1, i2, i3⟩ | ⟨q6, m6, i1, i2, i3⟩
  rotate_left
  · rw [i2, pu_sb, f_X12_readKnown_b6, pu_oGo i3.so, pu_sb, f_X12_readKnown_b10, pu_sb, pu_oq62 i3.so]
    rcases i1 with ⟨j1, j2⟩ | ⟨j1, j2, j3⟩
    · rw [j1, pu_sb, if_pos rfl, j2, pu_sb, if_pos (Or.inl rfl), pu_sb, if_pos rfl]
      exact Or.inr ⟨q6, m6, _, _, rfl, rfl, i3.pre y3 y4⟩
    · rw [j1, pu_sb, if_neg (show ¬ (1 : Int32) = 0 by decide), j2, pu_sb]
      have k6 := pu_Qs_rule z5 N (-1)
      generalize pl_set_riders z5 (qr_set_rule (pl_riders z5) (upd (qr_rule (pl_riders z5)) N (-1))) = z6 at k6 ⊢
      rw [show qr_rule (pl_riders z6) N = -1 by rw [k6.v]; exact pk_us, if_pos rfl, j3, pu_sb, if_pos (Or.inl rfl), pu_sb, if_pos rfl]
      exact Or.inr ⟨q6, m6, _, _, rfl, rfl, i3.pre y3 y4⟩
  rw [i1, i3, pu_sb, pu_sb, if_neg (show ¬ (1 : Int32) = 0 by decide), i2, pu_sb]
  have k6 := pu_Qs_rule z5 N (nI i)
  generalize pl_set_riders z5 (qr_set_rule (pl_riders z5) (upd (qr_rule (pl_riders z5)) N (nI i))) = z6 at k6 ⊢
  obtain ⟨s6, e6, q6, m6, j1, j2, j3, j4, j5, j6⟩ := pu_adv t5 y5 (by rw [ki]; decide) (by rw [ki]; decide)
  rw [show qr_rule (pl_riders z6) N = nI i by rw [k6.v]; exact pk_us, if_neg (pu_ne1 (by omega)), j1, pu_sb, pu_sb, if_neg (show ¬ (1 : Int32) = 0 by decide), f_X12_readKnown_b6, j2, pu_sb, f_X12_readKnown_b10, pu_sb]
  replace j3 := pu_FP.tr y3 j3
  replace j4 := pu_FO.trr y4 j4
  exact (pu_lq140 hD n8 hB (z6 := z6) ⟨V.pq.trans k6.pq, V.uq.trans k6.uq, by rw [k6.gname]; exact V.nm, by rw [k6.gheld]; exact V.he, by rw [k6.gfriends]; exact V.fr⟩ (by rw [k6.gon]; exact Von) (by rw [k6.goff]; exact Voff) (by rw [k6.v]; exact pk_us) a10 ab b11 hi (t.fr j3 j4) j5 (j3.fa.trans hz)).pre j3 j4 (show s ≤ s6 by omega)
/-- from 'on' on -/
theorem pu_lq62 (hD : pu_RD pl bu R N F H) (n8 : N < 8) {w : Int64} {bu1 : BusT} (hB : pu_B1 bu bu1 R N w) {z3 : PlanT} (V : pu_QV pl z3 N w) (t : pu_TX c n ps tape mo) (h : pu_PK c n s e ps mo) (hz : ps_fault ps = 0) : pu_LR c n s ps mo (f_X4_readRider_b62 N ps z3) (f_X12_readRider_b25 tape mo bu1) := by
  obtain ⟨rc1, rc2, rc3⟩ := hD.rc
  have n12 : R + N + 1 ≤ 12 := by omega
  have g10 := hB.ns
  rw [f_X4_readRider_b62, f_X12_readRider_b25]
  rcases pu_num t h (ix := 25) (by omega) (0 : Int32) (10 : Int32) with ⟨a, q3, m3, va, _, la, h1, h2, h3⟩ | ⟨v, v2, q3, m3, h1, h2, h3⟩
  rotate_left
  · rw [h1, h2, pu_sb, pu_sb, pu_fq75 h3.nz, pu_oq36 h3.so _ _ n12 g10]
    exact Or.inr ⟨q3, m3, _, _, rfl, rfl, h3⟩
  have a10 : a ≤ 10 := pu_hi va (by omega) la
  rw [h1, h2, pu_sb, pu_sb]
  have k4 := pu_Qs_on z3 N (nI a)
  generalize pl_set_riders z3 (qr_set_on (pl_riders z3) (upd (qr_on (pl_riders z3)) N (nI a))) = z4 at k4 ⊢
  obtain ⟨s3, e3, u3, u4, u5, u6⟩ := h3
  have t3 := t.fr u3 u4
  rw [f_X4_readRider_b75, if_pos (u3.fa.trans hz), f_X12_readRider_b36, show qr_on (pl_riders z4) N = nI a by rw [k4.v]; exact pk_us, nI_1]
  rcases pu_num t3 u5 (ix := 26) (by omega) (nI (a + 1)) (11 : Int32) with ⟨b, q4, m4, vb, lb, lb2, h4, h5, h6⟩ | ⟨v, v2, q4, m4, h4, h5, h6⟩
  rotate_left
  · rw [h4, h5, pu_sb, pu_sb, pu_fq100 h6.nz, pu_oq49 h6.so _ _ _ n12 g10]
    exact Or.inr ⟨q4, m4, _, _, rfl, rfl, h6.pre u3 u4⟩
  have ba : a + 1 ≤ b := pu_lo vb (by omega) lb
  have b11 : b ≤ 11 := pu_hi vb (by omega) lb2
  rw [h4, h5, pu_sb, pu_sb]
  have k5 := pu_Qs_off z4 N (nI b)
  generalize pl_set_riders z4 (qr_set_off (pl_riders z4) (upd (qr_off (pl_riders z4)) N (nI b))) = z5 at k5 ⊢
  obtain ⟨s4, e4, x3, x4, x5, x6⟩ := h6
  replace x3 := pu_FP.tr u3 x3
  replace x4 := pu_FO.trr u4 x4
  exact (pu_lq100 hD n8 hB (z5 := z5) ⟨(V.pq.trans k4.pq).trans k5.pq, (V.uq.trans k4.uq).trans k5.uq, by rw [k5.gname, k4.gname]; exact V.nm, by rw [k5.gheld, k4.gheld]; exact V.he, by rw [k5.gfriends, k4.gfriends]; exact V.fr⟩ (by rw [k5.gon, k4.v]; exact pk_us) (by rw [k5.v]; exact pk_us) a10 (by omega) b11 (t.fr x3 x4) x5 (x3.fa.trans hz)).pre x3 x4 (show s ≤ s4 by omega)
theorem pu_lineQ (t : pu_TX c n ps tape mo) (h : pu_PK c n s e ps mo) (hk : ps_kind ps = 1) (hz : ps_fault ps = 0) (hD : pu_RD pl bu R N F H) : pu_LR c n s ps mo (f_X4_readRider ps pl) (f_X12_readRider mo tape bu) := by
  obtain ⟨rc1, rc2, rc3⟩ := hD.rc
  obtain ⟨nc1, nc2, nc3⟩ := hD.nc
  rw [f_X4_readRider, f_X12_readRider, nc1, nc2]
  have e8 : (nI N < (8 : Int32)) ↔ N < 8 := nI_ltI (a := N) (b := 8) (by omega) (by omega)
  have q8 : (nI N = (8 : Int32)) ↔ N = 8 := nI_eq (a := N) (b := 8) (by omega) (by omega)
  by_cases n8 : N < 8
  rotate_left
  · obtain ⟨q, mq, f1, f2, f3⟩ := pu_fail h (k := 5) (by decide)
    refine Or.inr ⟨q, mq, pl, bu, ?_, ?_, f3⟩
    · rw [if_neg (fun k => n8 (e8.mp k)), f1, pu_sb, if_pos (Or.inl rfl)]
    · rw [f_X12_begins, if_pos (q8.mpr (by omega)), f2, pu_sb, f_X12_begins_b10, pu_oGo f3.so, pu_sb, f_X12_begins_b14, pu_sb, f_X12_readRider_b13, pu_oFr f3.so hD, pu_sb, pu_oq25 f3.so _ (show R + N ≤ 12 by omega) hD.nm]
  obtain ⟨s1, e1, q1, m1, a1, a2, a3, a4, a5, a6⟩ := pu_adv t h (by rw [hk]; decide) (by rw [hk]; decide)
  have t1 := t.fr a3 a4
  rw [if_pos (e8.mpr n8), a1, pu_sb, f_X12_begins, if_neg (fun k => by have := q8.mp k; omega), f_X12_begins_b10, a2, pu_sb, f_X12_begins_b14, pu_sb, f_X12_readRider_b13, nc2]
  rcases pu_fresh t1 a5 hD (show R + N < 12 by omega) 1 (nI N) with ⟨g1, g2, g3, g4, bu1, g5, g6, g7, g8, g9, g10⟩ | ⟨q, mq, g1, g2, g3⟩
  rotate_left
  · rw [g1, g2, pu_sb, pu_sb, if_pos rfl, pu_oq25 g3.so _ (show R + N ≤ 12 by omega) hD.nm]
    exact Or.inr ⟨q, mq, pl, bu, rfl, rfl, g3.pre a3 a4⟩
  have n12 : R + N + 1 ≤ 12 := by omega
  rw [g2, pu_sb, if_neg (show ¬ (1 : Int32) = 0 by decide), if_pos (pu_inn n8 (by omega)), nI_clamp (by omega), g5, g3]
  have k1 := pu_Qs_name pl N (mo_word m1)
  generalize pl_set_riders pl (qr_set_name (pl_riders pl) (vp_updL (qr_name (pl_riders pl)) N (mo_word m1))) = z1 at k1 ⊢
  have k2 := pu_Qs_held z1 N (-2)
  generalize pl_set_riders z1 (qr_set_held (pl_riders z1) (upd (qr_held (pl_riders z1)) N (-2))) = z2 at k2 ⊢
  rw [f_X4_readRider_b53]
  have k3 := pu_Qs_friends z2 N 0
  generalize pl_set_riders z2 (qr_set_friends (pl_riders z2) (upd (qr_friends (pl_riders z2)) N 0)) = z3 at k3 ⊢
  obtain ⟨s2, e2, q2, m2, d1, d2, d3, d4, d5, d6⟩ := pu_adv t1 a5 (by rw [g1]; decide) (by rw [g1]; decide)
  rw [d1, d2, pu_sb, pu_sb, pu_sb]
  have w3 := pu_FP.tr a3 d3
  have w4 := pu_FO.trr a4 d4
  exact (pu_lq62 hD n8 (w := mo_word m1) ⟨g6, g7, g8, g9, g10, g4⟩ (z3 := z3) ⟨(k1.pq.trans k2.pq).trans k3.pq, (k1.uq.trans k2.uq).trans k3.uq, by rw [k3.gname, k2.gname, k1.v], by rw [k3.gheld, k2.v]; exact pk_us, by rw [k3.v]; exact pk_us⟩ (t.fr w3 w4) d5 (w3.fa.trans hz)).pre w3 w4 (show s ≤ s2 by omega)
end QC
