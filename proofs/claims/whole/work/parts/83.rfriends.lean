/-! the line of friends, the line of one who holds a seat -/
section QD
variable {c : Nat → Nat} {n : Nat} {tape : TapeT} {s e : Nat} {ps : ParserT} {mo : MOT} {pl : PlanT} {bu : BusT} {R N F H : Nat}
/-- are they friends, by the reference -/
theorem pu_areF (f3 : F ≤ 3) (hf : bu_friends bu = nI F) (x y : Int32) : (f_X11_areFriends bu x y = some 1 ∧ ∃ k, k < F ∧ ((bu_friendA bu k = x ∧ bu_friendB bu k = y) ∨ (bu_friendA bu k = y ∧ bu_friendB bu k = x))) ∨ (f_X11_areFriends bu x y = some 0 ∧ ∀ k, k < F → ¬ ((bu_friendA bu k = x ∧ bu_friendB bu k = y) ∨ (bu_friendA bu k = y ∧ bu_friendB bu k = x))) := by
  refine pu_for (fun f k (_ : Unit) => f_X11_areFriends_b2 bu f x y k) F (fun i _ => ∀ k, k < i → ¬ ((bu_friendA bu k = x ∧ bu_friendB bu k = y) ∨ (bu_friendA bu k = y ∧ bu_friendB bu k = x))) (fun o => (o = some 1 ∧ ∃ k, k < F ∧ ((bu_friendA bu k = x ∧ bu_friendB bu k = y) ∨ (bu_friendA bu k = y ∧ bu_friendB bu k = x))) ∨ (o = some 0 ∧ ∀ k, k < F → ¬ ((bu_friendA bu k = x ∧ bu_friendB bu k = y) ∨ (bu_friendA bu k = y ∧ bu_friendB bu k = x)))) ?_ ?_ F 0 () 4096 (by omega) (by omega) (fun k hk => by omega)
  · intro f i _ hi hI
    have in3 : kb_in? (nI i) 3 := pu_inn (show i < 3 by omega) (by omega)
    have cl : (nI i).toNatClampNeg = i := nI_clamp (by omega)
    have e30 : f_X11_areFriends_b30 bu (f_X11_areFriends_b2 bu f) x y (nI i) = (if bu_friendA bu i = y ∧ bu_friendB bu i = x then some 1 else f_X11_areFriends_b2 bu f x y (nI (i + 1))) := by
      simp only [f_X11_areFriends_b30, if_pos in3, cl, nI_1]
      by_cases q1 : bu_friendA bu i = y
      · by_cases q2 : bu_friendB bu i = x
        · rw [if_pos q1, if_pos q2, if_pos ⟨q1, q2⟩]
        · rw [if_pos q1, if_neg q2, if_neg (fun z => q2 z.2)]
      · rw [if_neg q1, if_neg (fun z => q1 z.1)]
    have e1 : f_X11_areFriends_b2 bu (f + 1) x y (nI i) = (if ((bu_friendA bu i = x ∧ bu_friendB bu i = y) ∨ (bu_friendA bu i = y ∧ bu_friendB bu i = x)) then some 1 else f_X11_areFriends_b2 bu f x y (nI (i + 1))) := by
      rw [f_X11_areFriends_b2, hf, if_neg (nI_ge hi (by omega)), e30]
      simp only [if_pos in3, cl]
      by_cases q1 : bu_friendA bu i = x
      · by_cases q2 : bu_friendB bu i = y
        · rw [if_pos q1, if_pos q2, if_pos (Or.inl ⟨q1, q2⟩)]
        · rw [if_pos q1, if_neg q2]
          by_cases q3 : bu_friendA bu i = y ∧ bu_friendB bu i = x
          · rw [if_pos q3, if_pos (Or.inr q3)]
          · rw [if_neg q3, if_neg (fun z => z.elim (fun w => q2 w.2) q3)]
      · rw [if_neg q1]
        by_cases q3 : bu_friendA bu i = y ∧ bu_friendB bu i = x
        · rw [if_pos q3, if_pos (Or.inr q3)]
        · rw [if_neg q3, if_neg (fun z => z.elim (fun w => q1 w.1) q3)]
    by_cases q : (bu_friendA bu i = x ∧ bu_friendB bu i = y) ∨ (bu_friendA bu i = y ∧ bu_friendB bu i = x)
    · refine Or.inr (Or.inl ⟨?_, i, hi, q⟩)
      show f_X11_areFriends_b2 bu (f + 1) x y (nI i) = _
      rw [e1, if_pos q]
    · refine Or.inl ⟨(), ?_, fun k hk => ?_⟩
      · show f_X11_areFriends_b2 bu (f + 1) x y (nI i) = _
        rw [e1, if_neg q]
      · by_cases ek : k = i
        · subst ek; exact q
        · exact hI k (by omega)
  · intro f _ hI
    refine Or.inr ⟨?_, hI⟩
    show f_X11_areFriends_b2 bu (f + 1) x y (nI F) = _
    rw [f_X11_areFriends_b2, hf, if_pos (nI_le (Nat.le_refl _) (by omega))]
theorem pu_of52 (ov : mo_sort mo = 5) (v1 v2 : Int32) (b : BusT) : f_X12_readFriends_b52 tape v1 v2 mo b = some (mo, b) := by rw [f_X12_readFriends_b52, pu_oGo ov, pu_sb, f_X12_readFriends_b56, if_pos ov]
theorem pu_of47 (ov : mo_sort mo = 5) (v1 v2 : Int32) (b : BusT) : f_X12_readFriends_b47 tape v1 v2 mo b = some (mo, b) := by rw [f_X12_readFriends_b47, pu_oWr ov, pu_sb, pu_of52 ov]
theorem pu_of30 (ov : mo_sort mo = 5) (hD : pu_RD pl bu R N F H) (v1 v2 : Int32) : f_X12_readFriends_b30 tape v1 v2 mo bu = some (mo, bu) := by
  rw [f_X12_readFriends_b30, pu_of47 ov, pu_of52 ov]
  by_cases q : v1 = v2
  · rw [if_pos q]
  · rw [if_neg q]
    rcases pu_areF hD.fc.2.2 hD.fc.2.1 v1 v2 with ⟨a, _⟩ | ⟨a, _⟩
    · rw [a, pu_sb, if_neg (show ¬ (1 : Int32) = 0 by decide)]
    · rw [a, pu_sb, if_pos rfl]
theorem pu_of24 (ov : mo_sort mo = 5) (hD : pu_RD pl bu R N F H) (v1 : Int32) : f_X12_readFriends_b24 tape v1 mo bu = some (mo, bu) := by rw [f_X12_readFriends_b24, pu_oKn ov hD, pu_sb, pu_of30 ov hD]
theorem pu_of18 (ov : mo_sort mo = 5) (hD : pu_RD pl bu R N F H) (v1 : Int32) : f_X12_readFriends_b18 tape v1 mo bu = some (mo, bu) := by rw [f_X12_readFriends_b18, pu_oNs ov, pu_sb, pu_of24 ov hD]
theorem pu_of12 (ov : mo_sort mo = 5) (hD : pu_RD pl bu R N F H) : f_X12_readFriends_b12 tape mo bu = some (mo, bu) := by rw [f_X12_readFriends_b12, f_X12_readKnown, pu_oKn ov hD, pu_sb, f_X12_readKnown_b6, pu_oGo ov, pu_sb, f_X12_readKnown_b10, pu_sb, pu_of18 ov hD]
/-- friends are put down, in both -/
theorem pu_friPut (hD : pu_RD pl bu R N F H) (f3 : F < 3) {x y : Nat} (hx : x < N) (hy : y < N) (xy : ¬ x = y) {p : PlanT} {b : BusT} (PF : pu_PFf pl p) (pc : pl_friendCount p = nI (F + 1)) (on : qr_on (pl_riders p) = qr_on (pl_riders pl)) (off : qr_off (pl_riders p) = qr_off (pl_riders pl)) (rule : qr_rule (pl_riders p) = qr_rule (pl_riders pl)) (looks : qr_looks (pl_riders p) = qr_looks (pl_riders pl)) (age : qr_age (pl_riders p) = qr_age (pl_riders pl)) (bag : qr_hasBag (pl_riders p) = qr_hasBag (pl_riders pl)) (pro : qr_isProud (pl_riders p) = qr_isProud (pl_riders pl)) (held : qr_held (pl_riders p) = qr_held (pl_riders pl)) (name : qr_name (pl_riders p) = qr_name (pl_riders pl))
    (fri : ∀ r, ∀ q, q < 32 → bt (qr_friends (pl_riders p) r) q = (bt (qr_friends (pl_riders pl) r) q || (decide (r = x) && decide (q = y)) || (decide (r = y) && decide (q = x)))) (fri32 : ∀ r, r < N → ∀ q, 32 ≤ q → bt (qr_friends (pl_riders p) r) q = false) (GF : pu_BFf bu b) (bA : bu_friendA b = upd (bu_friendA bu) F (nI x)) (bB : bu_friendB b = upd (bu_friendB bu) F (nI y)) (bc : bu_friends b = nI (F + 1)) : pu_RD p b R N (F + 1) H := by
  have n8 := hD.nc.2.2
  have eI : ∀ {u v : Nat}, u < 8 → v < 8 → ((nI u = nI v) ↔ u = v) := fun h1 h2 => nI_eq (by omega) (by omega)
  refine ⟨?_, ?_, ?_, ⟨pc, bc, by omega⟩, ?_, ?_, ?_, ?_, ?_, ?_, ?_, ?_, ?_, ?_, ?_⟩
  · rw [PF.fhasCabin, PF.fcab, GF.frows]
    rcases hD.cab with k | ⟨k1, k2⟩
    · exact Or.inl k
    · refine Or.inr ⟨k1, ?_⟩
      unfold pu_CB at k2 ⊢
      rw [GF.frows, GF.fform, GF.fdoor, GF.fpace, GF.frise, GF.fsun]
      exact k2
  · rw [PF.fruleCount, GF.frules]; exact hD.rc
  · rw [PF.friderCount, GF.friders]; exact hD.nc
  · rw [PF.fholderCount, GF.fholders]; exact hD.hc
  · rw [GF.fnames]; exact hD.nm
  · rw [PF.frules, GF.fwaysMany, GF.fway]; exact hD.wy
  · intro r hr
    have := hD.rd r hr
    unfold pu_R1 at this ⊢
    rw [on, off, rule, looks, age, bag, pro, held, GF.fon, GF.foff, GF.frule, GF.flooks, GF.fage, GF.fhasBag, GF.fisProud, GF.fholds]
    exact this
  · intro r hr q hq
    by_cases q32 : q < 32
    · rw [fri r q q32] at hq
      rw [Bool.or_eq_true, Bool.or_eq_true, Bool.and_eq_true, Bool.and_eq_true, decide_eq_true_iff, decide_eq_true_iff, decide_eq_true_iff, decide_eq_true_iff] at hq
      rcases hq with (hq | hq) | hq
      · exact hD.fb r hr q hq
      · omega
      · omega
    · rw [fri32 r hr q (by omega)] at hq; exact absurd hq (by decide)
  · intro k hk
    rw [bA, bB]
    by_cases ek : k = F
    · subst ek
      exact ⟨x, y, hx, hy, pk_us, pk_us⟩
    · rw [pk_un ek, pk_un ek]; exact hD.fr k (by omega)
  · intro r hr q hq
    rw [fri r q (by omega), Bool.or_eq_true, Bool.or_eq_true, Bool.and_eq_true, Bool.and_eq_true, decide_eq_true_iff, decide_eq_true_iff, decide_eq_true_iff, decide_eq_true_iff, bA, bB]
    constructor
    · rintro ((z | z) | z)
      · obtain ⟨k, k1, k2⟩ := (hD.ff r hr q hq).mp z
        refine ⟨k, by omega, ?_⟩
        rw [pk_un (show k ≠ F by omega), pk_un (show k ≠ F by omega)]; exact k2
      · refine ⟨F, by omega, Or.inl ?_⟩
        rw [pk_us, pk_us, z.1, z.2]; exact ⟨rfl, rfl⟩
      · refine ⟨F, by omega, Or.inr ?_⟩
        rw [pk_us, pk_us, z.1, z.2]; exact ⟨rfl, rfl⟩
    · rintro ⟨k, k1, k2⟩
      by_cases ek : k = F
      · subst ek
        rw [pk_us, pk_us, eI (by omega) (by omega), eI (by omega) (by omega), eI (by omega) (by omega), eI (by omega) (by omega)] at k2
        rcases k2 with k2 | k2
        · exact Or.inl (Or.inr ⟨k2.1.symm, k2.2.symm⟩)
        · exact Or.inr ⟨k2.2.symm, k2.1.symm⟩
      · rw [pk_un ek, pk_un ek] at k2
        exact Or.inl (Or.inl ((hD.ff r hr q hq).mpr ⟨k, by omega, k2⟩))
  · rw [PF.frules, GF.fname, GF.fnameSort, GF.fnameNumber]; exact hD.n1
  · rw [name, GF.fname, GF.fnameSort, GF.fnameNumber]; exact hD.n2
  · rw [name, PF.frules, GF.fname, GF.fnameSort, GF.fnameNumber]; exact hD.n3
  · rw [GF.fname]; exact hD.n4
theorem pu_bt32 (x : Int32) {q : Nat} (h : 32 ≤ q) : bt x q = false := by unfold bt; exact BitVec.getLsbD_of_ge _ _ h
/-- the class's two bits -/
theorem pu_friC (pl : PlanT) {x y : Nat} (x8 : x < 8) (y8 : y < 8) (xy : ¬ x = y) : ∃ p, (pl_set_riders (pl_set_riders pl (qr_set_friends (pl_riders pl) (upd (qr_friends (pl_riders pl)) x (((qr_friends (pl_riders pl)) x) ||| ((1 : Int32) <<< (nI y &&& 31)))))) (qr_set_friends (pl_riders (pl_set_riders pl (qr_set_friends (pl_riders pl) (upd (qr_friends (pl_riders pl)) x (((qr_friends (pl_riders pl)) x) ||| ((1 : Int32) <<< (nI y &&& 31))))))) (upd (qr_friends (pl_riders (pl_set_riders pl (qr_set_friends (pl_riders pl) (upd (qr_friends (pl_riders pl)) x (((qr_friends (pl_riders pl)) x) ||| ((1 : Int32) <<< (nI y &&& 31)))))))) y (((qr_friends (pl_riders (pl_set_riders pl (qr_set_friends (pl_riders pl) (upd (qr_friends (pl_riders pl)) x (((qr_friends (pl_riders pl)) x) ||| ((1 : Int32) <<< (nI y &&& 31)))))))) y) ||| ((1 : Int32) <<< (nI x &&& 31)))))) = p ∧ pu_PQ pl p ∧ qr_on (pl_riders p) = qr_on (pl_riders pl) ∧ qr_off (pl_riders p) = qr_off (pl_riders pl) ∧ qr_rule (pl_riders p) = qr_rule (pl_riders pl) ∧ qr_looks (pl_riders p) = qr_looks (pl_riders pl) ∧ qr_age (pl_riders p) = qr_age (pl_riders pl) ∧ qr_hasBag (pl_riders p) = qr_hasBag (pl_riders pl) ∧ qr_isProud (pl_riders p) = qr_isProud (pl_riders pl) ∧ qr_held (pl_riders p) = qr_held (pl_riders pl) ∧ qr_name (pl_riders p) = qr_name (pl_riders pl) ∧ ∀ r q, q < 32 → bt (qr_friends (pl_riders p) r) q = (bt (qr_friends (pl_riders pl) r) q || (decide (r = x) && decide (q = y)) || (decide (r = y) && decide (q = x))) := by
  have a := pu_Qs_friends pl x (((qr_friends (pl_riders pl)) x) ||| ((1 : Int32) <<< (nI y &&& 31)))
  generalize pl_set_riders pl (qr_set_friends (pl_riders pl) (upd (qr_friends (pl_riders pl)) x (((qr_friends (pl_riders pl)) x) ||| ((1 : Int32) <<< (nI y &&& 31))))) = p1 at a ⊢
  have b := pu_Qs_friends p1 y (((qr_friends (pl_riders p1)) y) ||| ((1 : Int32) <<< (nI x &&& 31)))
  generalize pl_set_riders p1 (qr_set_friends (pl_riders p1) (upd (qr_friends (pl_riders p1)) y (((qr_friends (pl_riders p1)) y) ||| ((1 : Int32) <<< (nI x &&& 31))))) = p2 at b ⊢
  refine ⟨p2, rfl, a.pq.trans b.pq, by rw [b.gon, a.gon], by rw [b.goff, a.goff], by rw [b.grule, a.grule], by rw [b.glooks, a.glooks], by rw [b.gage, a.gage], by rw [b.ghasBag, a.ghasBag], by rw [b.gisProud, a.gisProud], by rw [b.gheld, a.gheld], by rw [b.gname, a.gname], fun r q hq => ?_⟩
  rw [b.v, a.v]
  by_cases r1 : r = y
  · have dz : decide (r = x) = false := decide_eq_false (fun z => xy (z.symm.trans r1))
    rw [dz, r1, pk_us, b_or, pu_sh1 x (by omega), pk_un (fun z => xy z.symm), Bool.false_and, Bool.or_false, decide_eq_true (rfl : y = y), Bool.true_and]
  · have dz : decide (r = y) = false := decide_eq_false r1
    rw [pk_un r1, dz, Bool.false_and, Bool.or_false]
    by_cases r2 : r = x
    · rw [r2, pk_us, b_or, pu_sh1 y (by omega), decide_eq_true (rfl : x = x), Bool.true_and]
    · have dw : decide (r = x) = false := decide_eq_false r2
      rw [pk_un r2, dw, Bool.false_and, Bool.or_false]
theorem pu_lineF (t : pu_TX c n ps tape mo) (h : pu_PK c n s e ps mo) (hk : ps_kind ps = 1) (hD : pu_RD pl bu R N F H) : pu_LR c n s ps mo (f_X4_readFriends ps pl) (f_X12_readFriends mo tape bu) := by
  obtain ⟨fc1, fc2, fc3⟩ := hD.fc
  have n8 := hD.nc.2.2
  rw [f_X4_readFriends, f_X12_readFriends, fc1, fc2]
  have e3 : (nI F < (3 : Int32)) ↔ F < 3 := nI_ltI (a := F) (b := 3) (by omega) (by omega)
  have q3 : (nI F = (3 : Int32)) ↔ F = 3 := nI_eq (a := F) (b := 3) (by omega) (by omega)
  by_cases f3 : F < 3
  rotate_left
  · obtain ⟨q, mq, f1, f2, f3'⟩ := pu_fail h (k := 5) (by decide)
    refine Or.inr ⟨q, mq, pl, bu, ?_, ?_, f3'⟩
    · rw [if_neg (fun k => f3 (e3.mp k)), f1, pu_sb, if_pos (Or.inl rfl)]
    · rw [f_X12_begins, if_pos (q3.mpr (by omega)), f2, pu_sb, f_X12_begins_b10, pu_oGo f3'.so, pu_sb, f_X12_begins_b14, pu_sb, pu_of12 f3'.so hD]
  obtain ⟨s1, e1, q1, m1, a1, a2, a3, a4, a5, a6⟩ := pu_adv t h (by rw [hk]; decide) (by rw [hk]; decide)
  have t1 := t.fr a3 a4
  rw [if_pos (e3.mpr f3), a1, pu_sb, f_X12_begins, if_neg (fun k => by have := q3.mp k; omega), f_X12_begins_b10, a2, pu_sb, f_X12_begins_b14, pu_sb, f_X12_readFriends_b12, f_X12_readKnown]
  rcases pu_knownQ t1 a5 hD with ⟨x, hx, kx, g1, g2⟩ | ⟨q, mq, g1, g2, g3⟩
  rotate_left
  · rw [g1, g2, pu_sb, pu_sb, f_X4_readFriends_b24, if_pos rfl, f_X12_readKnown_b6, pu_oGo g3.so, pu_sb, f_X12_readKnown_b10, pu_sb, pu_of18 g3.so hD]
    exact Or.inr ⟨q, mq, pl, bu, rfl, rfl, g3.pre a3 a4⟩
  obtain ⟨s2, e2, q2, m2, d1, d2, d3, d4, d5, d6⟩ := pu_adv t1 a5 (by rw [kx]; decide) (by rw [kx]; decide)
  replace d3 := pu_FP.tr a3 d3
  replace d4 := pu_FO.trr a4 d4
  have t2 := t.fr d3 d4
  rw [g1, g2, pu_sb, pu_sb, f_X4_readFriends_b24, if_neg (pu_ne1 (by omega)), d1, pu_sb, f_X12_readKnown_b6, d2, pu_sb, f_X12_readKnown_b10, pu_sb, f_X12_readFriends_b18, f_X12_needsSign]
  have sg := d5.sg.2
  by_cases k4 : ps_kind q2 = 4
  rotate_left
  · obtain ⟨q, mq, f1, f2, f4⟩ := pu_fail d5 (k := 1) (by decide)
    have e16 : f_X12_needsSign_b16 tape m2 = some mq := by rw [f_X12_needsSign_b16, f2, pu_sb, f_X12_needsSign_b21, pu_oGo f4.so]; rfl
    have eN : (if mo_sort m2 = (4 : Int32) then (if mo_sign m2 = (44 : Int32) then f_X12_needsSign_b21 tape m2 else f_X12_needsSign_b16 tape m2) else f_X12_needsSign_b16 tape m2) = some mq := by
      by_cases z4 : mo_sort m2 = 4
      · rw [if_pos z4, if_neg (fun z => k4 (sg.mpr ⟨z4, z⟩)), e16]
      · rw [if_neg z4, e16]
    rw [if_neg k4, f1, pu_sb, if_pos (Or.inl rfl), eN, pu_sb, pu_of24 f4.so hD]
    exact Or.inr ⟨q, mq, pl, bu, rfl, rfl, f4.pre d3 d4⟩
  obtain ⟨sg1, sg2⟩ := sg.mp k4
  obtain ⟨s3, e3', q3', m3, j1, j2, j3, j4, j5, j6⟩ := pu_adv t2 d5 (by rw [k4]; decide) (by rw [k4]; decide)
  replace j3 := pu_FP.tr d3 j3
  replace j4 := pu_FO.trr d4 j4
  have t3 := t.fr j3 j4
  rw [if_pos k4, j1, pu_sb, if_pos sg1, if_pos sg2, f_X12_needsSign_b21, j2, pu_sb, f_X12_needsSign_b25, pu_sb, f_X12_readFriends_b24]
  rcases pu_knownQ t3 j5 hD with ⟨y, hy, ky, g3, g4⟩ | ⟨q, mq, g3, g4, g5⟩
  rotate_left
  · rw [g3, g4, pu_sb, pu_sb, f_X4_readFriends_b59, if_pos rfl, pu_of30 g5.so hD]
    exact Or.inr ⟨q, mq, pl, bu, rfl, rfl, g5.pre j3 j4⟩
  rw [g3, g4, pu_sb, pu_sb, f_X12_readFriends_b30]
  show pu_LR c n s ps mo (f_X4_readFriends_b59 (nI x) (nI y) q3' pl) (if nI x = nI y then f_X12_readFriends_b47 tape (nI x) (nI y) m3 bu else (f_X11_areFriends bu (nI x) (nI y)).bind fun r11 => (if r11 = 0 then f_X12_readFriends_b52 tape (nI x) (nI y) m3 bu else f_X12_readFriends_b47 tape (nI x) (nI y) m3 bu))
  have exy : (nI x = nI y) ↔ x = y := nI_eq (by omega) (by omega)
  have again : ∃ q mq, f_X4_readFriends_b87 q3' pl = some (0, q, pl) ∧ f_X12_readFriends_b47 tape (nI x) (nI y) m3 bu = some (mq, bu) ∧ pu_ER ps mo q mq := by
    obtain ⟨q, mq, f1, f2, f4⟩ := pu_fail j5 (k := 3) (by decide)
    refine ⟨q, mq, ?_, ?_, f4.pre j3 j4⟩
    · rw [f_X4_readFriends_b87, f1, pu_sb, if_pos (Or.inl rfl)]
    · rw [f_X12_readFriends_b47, f2, pu_sb, pu_of52 f4.so]
  by_cases xy : x = y
  · obtain ⟨q, mq, r1, r2, r3⟩ := again
    rw [f_X4_readFriends_b59, if_neg (pu_ne1 (by omega)), if_pos (exy.mpr xy), if_pos (exy.mpr xy), r1, r2]
    exact Or.inr ⟨q, mq, pl, bu, rfl, rfl, r3⟩
  obtain ⟨p, v1, v2, v3, v4, v5, v6, v7, v8, v9, v10, v11, v12⟩ := pu_friC pl (show x < 8 by omega) (show y < 8 by omega) xy
  have e59 : f_X4_readFriends_b59 (nI x) (nI y) q3' pl = if bt (qr_friends (pl_riders pl) x) y = true then f_X4_readFriends_b87 q3' pl else f_X4_readFriends_b127 q3' p := by
    simp only [f_X4_readFriends_b59, if_neg (pu_ne1 (show y < 2 ^ 31 by omega)), if_neg (fun z => xy (exy.mp z)), if_pos (pu_inn (c := x) (N := 8) (by omega) (by omega)), if_pos (pu_inn (c := y) (N := 8) (by omega) (by omega)), nI_clamp (show x < 2 ^ 31 by omega), nI_clamp (show y < 2 ^ 31 by omega), pu_hb _ (show y < 32 by omega), pu_sb, pu_ifb, v1]
  rw [e59, if_neg (fun z => xy (exy.mp z))]
  have ffx := hD.ff x hx y hy
  rcases pu_areF fc3 fc2 (nI x) (nI y) with ⟨r1, r2⟩ | ⟨r1, r2⟩
  · obtain ⟨q, mq, u1, u2, u3⟩ := again
    rw [ffx.mpr r2, pu_tt, r1, pu_sb, if_neg (show ¬ (1 : Int32) = 0 by decide), u1, u2]
    exact Or.inr ⟨q, mq, pl, bu, rfl, rfl, u3⟩
  have bf : bt (qr_friends (pl_riders pl) x) y = false := by
    cases hb : bt (qr_friends (pl_riders pl) x) y
    · rfl
    · obtain ⟨k, k1, k2⟩ := ffx.mp hb
      exact absurd k2 (r2 k k1)
  rw [bf, pu_ff, r1, pu_sb, if_pos rfl]
  obtain ⟨s4, e4, q4, m4, w1, w2, w3, w4, w5, w6⟩ := pu_adv t3 j5 (by rw [ky]; decide) (by rw [ky]; decide)
  rw [f_X4_readFriends_b127, w1, pu_sb, f_X4_readFriends_b141, f_X12_readFriends_b52, w2, pu_sb, f_X12_readFriends_b56, if_neg w5.sort5, fc2, if_pos (pu_inn f3 (by omega)), nI_clamp (by omega), f_X12_readFriends_b81]
  have pE : ∀ (p : PlanT) (x : Int32), pu_PFf p (pl_set_friendCount p x) ∧ pl_riders (pl_set_friendCount p x) = pl_riders p ∧ pl_friendCount (pl_set_friendCount p x) = x := fun p x => ⟨⟨rfl, rfl, rfl, rfl, rfl, rfl⟩, rfl, rfl⟩
  rw [v2.fr.ffriendCount, fc1, nI_1]
  obtain ⟨P1, P2, P3⟩ := pE p (nI (F + 1))
  generalize pl_set_friendCount p (nI (F + 1)) = pf at P1 P2 P3 ⊢
  have bA : ∀ (b : BusT) (x : Nat → Int32), pu_BFf b (bu_set_friendA b x) ∧ bu_friendA (bu_set_friendA b x) = x ∧ bu_friendB (bu_set_friendA b x) = bu_friendB b ∧ bu_friends (bu_set_friendA b x) = bu_friends b := fun b x => ⟨⟨rfl, rfl, rfl, rfl, rfl, rfl, rfl, rfl, rfl, rfl, rfl, rfl, rfl, rfl, rfl, rfl, rfl, rfl, rfl, rfl, rfl, rfl, rfl⟩, rfl, rfl, rfl⟩
  have bB : ∀ (b : BusT) (x : Nat → Int32), pu_BFf b (bu_set_friendB b x) ∧ bu_friendB (bu_set_friendB b x) = x ∧ bu_friendA (bu_set_friendB b x) = bu_friendA b ∧ bu_friends (bu_set_friendB b x) = bu_friends b := fun b x => ⟨⟨rfl, rfl, rfl, rfl, rfl, rfl, rfl, rfl, rfl, rfl, rfl, rfl, rfl, rfl, rfl, rfl, rfl, rfl, rfl, rfl, rfl, rfl, rfl⟩, rfl, rfl, rfl⟩
  have bC : ∀ (b : BusT) (x : Int32), pu_BFf b (bu_set_friends b x) ∧ bu_friends (bu_set_friends b x) = x ∧ bu_friendA (bu_set_friends b x) = bu_friendA b ∧ bu_friendB (bu_set_friends b x) = bu_friendB b := fun b x => ⟨⟨rfl, rfl, rfl, rfl, rfl, rfl, rfl, rfl, rfl, rfl, rfl, rfl, rfl, rfl, rfl, rfl, rfl, rfl, rfl, rfl, rfl, rfl, rfl⟩, rfl, rfl, rfl⟩
  obtain ⟨A1, A2, A3, A4⟩ := bA bu (upd (bu_friendA bu) F (nI x))
  generalize bu_set_friendA bu (upd (bu_friendA bu) F (nI x)) = b1 at A1 A2 A3 A4 ⊢
  rw [A4, fc2, if_pos (pu_inn f3 (by omega)), nI_clamp (by omega), f_X12_readFriends_b97, f_X12_readFriends_b110]
  obtain ⟨B1, B2, B3, B4⟩ := bB b1 (upd (bu_friendB b1) F (nI y))
  generalize bu_set_friendB b1 (upd (bu_friendB b1) F (nI y)) = b2 at B1 B2 B3 B4 ⊢
  rw [B4, A4, fc2, nI_1]
  obtain ⟨C1, C2, C3, C4⟩ := bC b2 (nI (F + 1))
  generalize bu_set_friends b2 (nI (F + 1)) = b3 at C1 C2 C3 C4 ⊢
  refine Or.inl ⟨q4, m4, pf, b3, R, N, F + 1, H, rfl, rfl, ⟨s4, e4, pu_FP.tr j3 w3, pu_FO.trr j4 w4, w5, by omega⟩, ?_⟩
  have PFx : pu_PFf pl pf := ⟨P1.fcab.trans v2.fr.fcab, P1.frules.trans v2.fr.frules, P1.fhasCabin.trans v2.fr.fhasCabin, P1.fruleCount.trans v2.fr.fruleCount, P1.friderCount.trans v2.rc, P1.fholderCount.trans v2.fr.fholderCount⟩
  exact pu_friPut hD f3 hx hy xy PFx P3 (by rw [P2]; exact v3) (by rw [P2]; exact v4) (by rw [P2]; exact v5) (by rw [P2]; exact v6) (by rw [P2]; exact v7) (by rw [P2]; exact v8) (by rw [P2]; exact v9) (by rw [P2]; exact v10) (by rw [P2]; exact v11) (by rw [P2]; exact v12) (fun r _ q hq => pu_bt32 _ hq) ((A1.trans B1).trans C1) (by rw [C3, B3, A2]) (by rw [C4, B2, A3]) C2
end QD
