/-! sitting down, getting up -/
/-- what is of no rider stays: seconds, stops, who gave -/
def pu_K (w2 w : Nat → Int32) : Prop := ∀ k, (40 ≤ k ∧ k ≤ 52) ∨ k = 55 → w2 k = w k
section PS
variable {pl : PlanT} {bu : BusT} {rd : RideT} {w : WT}
theorem pu_clr (x : Int32) {n : Nat} (hn : n < 32) {i : Nat} (hi : i < 32) : bt (x &&& (((1 : Int32) <<< (nI n &&& 31)) ^^^ (-1 : Int32))) i = (bt x i && !decide (i = n)) := by
  rw [b_and, b_xor, pu_sh1 n hn, b_m1 i hi]
  cases decide (i = n) <;> simp
/-- the loop over the others: who is sat by, who is passed -/
theorem pu_sitLoop (h : pu_GP pl) (hB : pu_RB pl bu) (mo : MOT) {r s : Nat} (hr : r < vN pl) (hs : s < 20) (hsv : vSeat pl s = true) {rd0 : RideT} {w0 : WT} (hpl : ∀ q, q < vN pl → yW_r w0 q = rd_place rd0 q) (hpv : ∀ q, q < vN pl → ∃ p, rd_place rd0 q = nI p ∧ p ≤ 102) (hrp : vSits rd0 r = false)
    (hpa : ∀ q, q < vN pl → yW_r w0 (24 + q) = rd_passed rd0 q) (hjo : ∀ q, q < vN pl → yW_r w0 (32 + q) = pu_bI (bt (rd_joined rd0) q))
    (Q : Option RideT → Option WT → Prop)
    (hQ : ∀ (pas : Nat → Int32) (joi : Int32) (w1 : WT) (n : Nat), (∀ k, k < 24 ∨ 40 ≤ k → yW_r w1 k = yW_r w0 k) → (∀ q, q < vN pl → yW_r w1 (24 + q) = pas q) → (∀ q, q < vN pl → yW_r w1 (32 + q) = pu_bI (bt joi q)) → Q (f_X6_sitDown_b16 pl (n + 1) (nI r) (nI s) (if vB2 pl s then nI (s ^^^ 1) else -2) (nI (vN pl)) (rd_set_passed (rd_set_joined rd0 joi) pas)) (f_X12_sitsDown_b25 mo bu (n + 1) (nI r) (nI s) (nI (vN pl)) w1)) :
    Q (f_X6_sitDown_b16 pl 4096 (nI r) (nI s) (if vB2 pl s then nI (s ^^^ 1) else -2) 0 rd0) (f_X12_sitsDown_b22 mo bu (nI r) (nI s) w0) := by
  have hn := h.n31
  have ex := pu_x20 s hs
  rw [f_X12_sitsDown_b22]
  refine pu_for2 (fun n i (a : (Nat → Int32) × Int32) => f_X6_sitDown_b16 pl n (nI r) (nI s) (if vB2 pl s then nI (s ^^^ 1) else -2) i (rd_set_passed (rd_set_joined rd0 a.2) a.1)) (fun n i (c : WT) => f_X12_sitsDown_b25 mo bu n (nI r) (nI s) i c) (vN pl)
    (fun _ a c => (∀ k, k < 24 ∨ 40 ≤ k → yW_r c k = yW_r w0 k) ∧ (∀ q, q < vN pl → yW_r c (24 + q) = a.1 q) ∧ (∀ q, q < vN pl → yW_r c (32 + q) = pu_bI (bt a.2 q))) Q ?_ ?_ (vN pl) 0 (rd_passed rd0, rd_joined rd0) w0 4096 (by omega) (by omega) ⟨fun _ _ => rfl, hpa, hjo⟩
  · intro n i a c hi hI
    obtain ⟨pas, joi⟩ := a
    obtain ⟨h1, h2, h3⟩ := hI
    refine Or.inl ?_
    obtain ⟨p, ep, hp⟩ := hpv i hi
    have h1i : yW_r c i = nI p := by rw [h1 i (by omega), hpl i hi, ep]
    have h3i := h3 i hi
    show ∃ a' c', f_X6_sitDown_b16 pl (n + 1) (nI r) (nI s) (if vB2 pl s then nI (s ^^^ 1) else -2) (nI i) (rd_set_passed (rd_set_joined rd0 joi) pas) = _ ∧ f_X12_sitsDown_b25 mo bu (n + 1) (nI r) (nI s) (nI i) c = _ ∧ _
    have eC : f_X6_sitDown_b16 pl (n + 1) (nI r) (nI s) (if vB2 pl s then nI (s ^^^ 1) else -2) (nI i) (rd_set_passed (rd_set_joined rd0 joi) pas) = if vB2 pl s = true ∧ p = s ^^^ 1 then f_X6_sitDown_b16 pl n (nI r) (nI s) (if vB2 pl s then nI (s ^^^ 1) else -2) (nI (i + 1)) (rd_set_passed (rd_set_joined rd0 (joi ||| ((1 : Int32) <<< (nI i &&& 31)))) pas) else if p < 20 ∧ bt joi i = false then f_X6_sitDown_b16 pl n (nI r) (nI s) (if vB2 pl s then nI (s ^^^ 1) else -2) (nI (i + 1)) (rd_set_passed (rd_set_joined rd0 joi) (upd pas i (pas i + 1))) else f_X6_sitDown_b16 pl n (nI r) (nI s) (if vB2 pl s then nI (s ^^^ 1) else -2) (nI (i + 1)) (rd_set_passed (rd_set_joined rd0 joi) pas) := by
      rw [f_X6_sitDown_b16, h.riders.1, if_neg (nI_ge hi (by omega))]
      simp only [if_pos (pu_inn (c := i) (N := 8) (by omega) (by omega)), nI_clamp (show i < 2 ^ 31 by omega), nI_1]
      show (if rd_place rd0 i = (if vB2 pl s then nI (s ^^^ 1) else -2) then _ else if (20 : Int32) ≤ rd_place rd0 i then _ else (f_X10_holdsBit joi (nI i)).bind _) = _
      rw [ep, pu_hb joi (by omega)]
      have e1 : (nI p = (if vB2 pl s then nI (s ^^^ 1) else (-2 : Int32))) = (vB2 pl s = true ∧ p = s ^^^ 1) := by
        cases vB2 pl s
        · exact propext ⟨fun e => absurd e (pu_ne2 (by omega)), fun e => absurd e.1 (by decide)⟩
        · show (nI p = nI (s ^^^ 1)) = _
          rw [nI_eq (by omega) (by omega)]
          exact propext ⟨fun e => ⟨rfl, e⟩, fun e => e.2⟩
      have e2 : ((20 : Int32) ≤ nI p) = (20 ≤ p) := by
        show (nI 20 ≤ nI p) = _
        rw [nI_leI (by omega) (by omega)]
      simp only [e1, e2]
      by_cases c1 : vB2 pl s = true ∧ p = s ^^^ 1
      · rw [if_pos c1, if_pos c1]; rfl
      · rw [if_neg c1, if_neg c1]
        by_cases c2 : 20 ≤ p
        · rw [if_pos c2, if_neg (show ¬ (p < 20 ∧ bt joi i = false) from fun z => absurd z.1 (by omega))]
        · rw [if_neg c2]
          rw [pu_sb, pu_ifb]
          cases c3 : bt joi i
          · rw [pu_ff, if_pos (show p < 20 ∧ false = false from ⟨by omega, rfl⟩)]; rfl
          · rw [pu_tt, if_neg (show ¬ (p < 20 ∧ true = false) from fun z => absurd z.2 (by decide))]
    have eM : f_X12_sitsDown_b25 mo bu (n + 1) (nI r) (nI s) (nI i) c = if i = r then f_X12_sitsDown_b25 mo bu n (nI r) (nI s) (nI (i + 1)) c else if 20 ≤ p then f_X12_sitsDown_b25 mo bu n (nI r) (nI s) (nI (i + 1)) c else if bt joi i = true then f_X12_sitsDown_b25 mo bu n (nI r) (nI s) (nI (i + 1)) c else if vB2 pl s = true ∧ p = s ^^^ 1 then f_X12_sitsDown_b25 mo bu n (nI r) (nI s) (nI (i + 1)) (yW_set_r c (upd (yW_r c) (32 + i) 1)) else f_X12_sitsDown_b25 mo bu n (nI r) (nI s) (nI (i + 1)) (yW_set_r c (upd (yW_r c) (24 + i) (yW_r c (24 + i) + 1))) := by
      have e2 : ((20 : Int32) ≤ nI p) = (20 ≤ p) := by
        show (nI 20 ≤ nI p) = _
        rw [nI_leI (by omega) (by omega)]
      rw [f_X12_sitsDown_b25, hB.riders, h.riders.1, if_neg (nI_ge hi (by omega)), f_X12_isSitting]
      simp only [nI_1, nI_eq (show i < 2 ^ 31 by omega) (show r < 2 ^ 31 by omega), pu_z, if_pos (pu_inn (c := i) (N := 56) (by omega) (by omega)), nI_clamp (show i < 2 ^ 31 by omega), h1i, e2]
      by_cases c0 : i = r
      · rw [if_pos c0, if_pos c0]
      · rw [if_neg c0, if_neg c0]
        by_cases c1 : 20 ≤ p
        · rw [if_pos c1, if_pos c1]; rfl
        · rw [if_neg c1, if_neg c1, pu_sb, if_neg (show ¬ (1 : Int32) = 0 by decide)]
          simp only [pu_a32, pu_a24, if_pos (pu_inn (c := 32 + i) (N := 56) (by omega) (by omega)), if_pos (pu_inn (c := 24 + i) (N := 56) (by omega) (by omega)), nI_clamp (show 32 + i < 2 ^ 31 by omega), nI_clamp (show 24 + i < 2 ^ 31 by omega), h3i, f_X12_sitsDown_b97, f_X12_sitsDown_b114, nI_1, pu_besideM h hB mo hs, pu_sb]
          cases c2 : bt joi i
          · rw [if_neg (show ¬ pu_bI false = 1 by decide), pu_ff]
            have e3 : ((if vB2 pl s then nI (s ^^^ 1) else (-1 : Int32)) = nI p) = (vB2 pl s = true ∧ p = s ^^^ 1) := by
              cases vB2 pl s
              · exact propext ⟨fun e => absurd e.symm (pu_ne1 (by omega)), fun e => absurd e.1 (by decide)⟩
              · show (nI (s ^^^ 1) = nI p) = _
                rw [nI_eq (by omega) (by omega)]
                exact propext ⟨fun e => ⟨rfl, e.symm⟩, fun e => e.2.symm⟩
            simp only [e3]
          · rw [if_pos (show pu_bI true = 1 from rfl), pu_tt]
    rw [eC, eM]
    have same : (∀ k, k < 24 ∨ 40 ≤ k → yW_r c k = yW_r w0 k) ∧ (∀ q, q < vN pl → yW_r c (24 + q) = pas q) ∧ (∀ q, q < vN pl → yW_r c (32 + q) = pu_bI (bt joi q)) := ⟨h1, h2, h3⟩
    by_cases c0 : i = r
    · have : ¬ p < 20 := by
        intro z
        have e := hrp
        rw [← c0, pu_sitsP hp ep, decide_eq_true z] at e
        cases e
      rw [if_pos c0, if_neg (fun z => by omega), if_neg (fun z => by omega)]
      exact ⟨(pas, joi), c, rfl, rfl, same⟩
    · rw [if_neg c0]
      by_cases c1 : 20 ≤ p
      · rw [if_pos c1, if_neg (fun z => by omega), if_neg (fun z => by omega)]
        exact ⟨(pas, joi), c, rfl, rfl, same⟩
      · rw [if_neg c1]
        by_cases c3 : vB2 pl s = true ∧ p = s ^^^ 1
        · rw [if_pos c3, if_pos c3]
          cases c2 : bt joi i
          · rw [pu_ff]
            refine ⟨(_, _), _, rfl, rfl, fun k hk => ?_, fun q hq => ?_, fun q hq => ?_⟩
            · show upd (yW_r c) (32 + i) 1 k = _
              rw [pk_un (by omega)]; exact h1 k hk
            · show upd (yW_r c) (32 + i) 1 (24 + q) = _
              rw [pk_un (by omega)]; exact h2 q hq
            · show upd (yW_r c) (32 + i) 1 (32 + q) = _
              rw [b_or, pu_sh1 i (by omega)]
              by_cases e : q = i
              · subst e; rw [pk_us, decide_eq_true rfl, Bool.or_true]; rfl
              · rw [pk_un (by omega), decide_eq_false e, Bool.or_false]; exact h3 q hq
          · rw [pu_tt]
            refine ⟨(_, _), _, rfl, rfl, h1, h2, fun q hq => ?_⟩
            rw [b_or, pu_sh1 i (by omega)]
            by_cases e : q = i
            · subst e; rw [h3 q hq, c2]; rfl
            · rw [decide_eq_false e, Bool.or_false]; exact h3 q hq
        · rw [if_neg c3, if_neg c3]
          cases c2 : bt joi i
          · rw [pu_ff, if_pos (show p < 20 ∧ false = false from ⟨by omega, rfl⟩)]
            refine ⟨(_, _), _, rfl, rfl, fun k hk => ?_, fun q hq => ?_, fun q hq => ?_⟩
            · show upd (yW_r c) (24 + i) _ k = _
              rw [pk_un (by omega)]; exact h1 k hk
            · show upd (yW_r c) (24 + i) _ (24 + q) = upd pas i _ q
              by_cases e : q = i
              · subst e; rw [pk_us, pk_us, h2 q hq]
              · rw [pk_un (by omega), pk_un e]; exact h2 q hq
            · show upd (yW_r c) (24 + i) _ (32 + q) = _
              rw [pk_un (by omega)]; exact h3 q hq
          · rw [pu_tt, if_neg (show ¬ (p < 20 ∧ true = false) from fun z => absurd z.2 (by decide))]
            exact ⟨(pas, joi), c, rfl, rfl, same⟩
  · intro n a c hI
    exact hQ a.1 a.2 c n hI.1 hI.2.1 hI.2.2
/-- r sits down in s, no bag put yet -/
theorem pu_seated (h : pu_GP pl) (hR : pu_RR pl rd (yW_r w)) {r s : Nat} (hr : r < vN pl) (hs : s < 20) (hsv : vSeat pl s = true) (hsn : sc_sitter (rd_scene rd) s = -2) (hv : vSits rd r = false) {pas : Nat → Int32} {joi : Int32} {w1 w2 : Nat → Int32}
    (hb : ∀ q, q < vN pl → w1 (8 + q) = if yW_r w (8 + q) = nI s then -1 else yW_r w (8 + q)) (ho : ∀ k, k < 8 ∨ (16 ≤ k ∧ k < 24) ∨ 40 ≤ k → w1 k = yW_r w k) (hp : ∀ q, q < vN pl → w1 (24 + q) = pas q) (hj : ∀ q, q < vN pl → w1 (32 + q) = pu_bI (bt joi q))
    (hw2 : w2 = upd (upd (upd (upd (upd w1 r (nI s)) 53 (w1 53 + 1)) (16 + r) (w1 53 + 1)) (24 + r) 0) (32 + r) 0) :
    pu_RC pl (upd (sc_sitter (rd_scene rd)) s (nI r)) (upd (rd_place rd) r (nI s)) (upd (rd_luggage rd) s (-2)) (upd (rd_turn rd) r (rd_turns rd + 1)) (rd_spent rd) (upd pas r 0) (joi &&& (((1 : Int32) <<< (nI r &&& 31)) ^^^ (-1 : Int32))) (rd_turns rd + 1) (rd_gifts rd) (rd_stops rd) w2 := by
  have hn := h.n31
  have hst := hR.sto
  -- what w2 is, place by place
  have g : ∀ k, k ≠ r → k ≠ 53 → k ≠ 16 + r → k ≠ 24 + r → k ≠ 32 + r → w2 k = w1 k := fun k a b c d e => by rw [hw2, pk_un e, pk_un d, pk_un c, pk_un b, pk_un a]
  have g8 : ∀ q, q < vN pl → w2 (8 + q) = if yW_r w (8 + q) = nI s then -1 else yW_r w (8 + q) := fun q hq => by rw [g _ (by omega) (by omega) (by omega) (by omega) (by omega)]; exact hb q hq
  have gr : w2 r = nI s := by rw [hw2, pk_un (by omega), pk_un (by omega), pk_un (by omega), pk_un (by omega), pk_us]
  have g0 : ∀ q, q < vN pl → q ≠ r → w2 q = rd_place rd q := fun q hq e => by rw [g q e (by omega) (by omega) (by omega) (by omega), ho q (by omega), hR.pla q hq]
  have rp : ∀ t, t < 20 → ¬ rd_place rd r = nI t := fun t ht e => by
    have e2 := pu_sitsP (by omega) e
    rw [hv, decide_eq_true ht] at e2
    cases e2
  have sn : ∀ q, q < vN pl → ¬ rd_place rd q = nI s := by
    rcases hR.sit s hs with ⟨_, b⟩ | ⟨q, hq, a, _⟩
    · exact b
    · rw [hsn] at a; exact absurd a.symm (pu_ne2 (by omega))
  refine ⟨?_, ?_, ?_, ?_, ?_, ?_, ?_, ?_, ?_, ?_, ?_, ?_, ?_⟩
  · intro q hq
    by_cases e : q = r
    · subst e; rw [gr, pk_us]
    · rw [g0 q hq e, pk_un e]
  · intro q hq
    by_cases e : q = r
    · subst e; exact ⟨s, pk_us, Or.inl ⟨hs, hsv⟩⟩
    · rw [pk_un e]; exact hR.plv q hq
  · intro t ht
    by_cases e : t = s
    · subst e; exact Or.inr ⟨r, hr, pk_us, pk_us⟩
    · rw [pk_un e]
      rcases hR.sit t ht with ⟨a, b⟩ | ⟨q, hq, a, b⟩
      · refine Or.inl ⟨a, fun q hq z => ?_⟩
        by_cases e2 : q = r
        · subst e2
          rw [pk_us, nI_eq (by omega) (by omega)] at z
          exact e z.symm
        · rw [pk_un e2] at z; exact b q hq z
      · have e2 : q ≠ r := fun z => by subst z; exact rp t ht b
        exact Or.inr ⟨q, hq, a, by rw [pk_un e2]; exact b⟩
  · intro q q2 t hq hq2 ht a b
    by_cases e : q = r
    · by_cases e2 : q2 = r
      · omega
      · subst e
        rw [pk_us] at a
        rw [pk_un e2, ← a] at b
        exact absurd b (sn q2 hq2)
    · by_cases e2 : q2 = r
      · subst e2
        rw [pk_us] at b
        rw [pk_un e, ← b] at a
        exact absurd a (sn q hq)
      · rw [pk_un e] at a
        rw [pk_un e2] at b
        exact hR.uni q q2 t hq hq2 ht a b
  · intro t ht
    by_cases e : t = s
    · subst e
      refine Or.inl ⟨pk_us, fun q hq z => ?_⟩
      rw [g8 q hq] at z
      by_cases c : yW_r w (8 + q) = nI t
      · rw [if_pos c] at z; exact pu_ne1 (by omega) z.symm
      · rw [if_neg c] at z; exact c z
    · rw [pk_un e]
      rcases hR.lug t ht with ⟨a, b⟩ | ⟨q, hq, a, b⟩
      · refine Or.inl ⟨a, fun q hq z => ?_⟩
        rw [g8 q hq] at z
        by_cases c : yW_r w (8 + q) = nI s
        · rw [if_pos c] at z; exact pu_ne1 (by omega) z.symm
        · rw [if_neg c] at z; exact b q hq z
      · refine Or.inr ⟨q, hq, a, ?_⟩
        rw [g8 q hq, if_neg (fun c => by rw [b, nI_eq (by omega) (by omega)] at c; exact e c)]
        exact b
  · intro q hq
    rw [g8 q hq]
    by_cases c : yW_r w (8 + q) = nI s
    · rw [if_pos c]; exact Or.inl rfl
    · rw [if_neg c]
      rcases hR.bag q hq with a | ⟨p, hp, v1, v2, a, b, d⟩
      · exact Or.inl a
      · have e : q ≠ r := fun z => by subst z; exact rp p hp a
        have e2 : p ^^^ 1 ≠ s := fun z => by rw [b, z] at c; exact c rfl
        exact Or.inr ⟨p, hp, v1, v2, by rw [pk_un e]; exact a, b, by rw [pk_un e2]; exact d⟩
  · intro q hq
    by_cases e : q = r
    · subst e
      rw [hw2, pk_un (by omega), pk_un (by omega), pk_us, pk_us, ho 53 (by omega), hR.tus]
    · rw [g _ (by omega) (by omega) (by omega) (by omega) (by omega), pk_un e, ho _ (by omega)]
      exact hR.tur q hq
  · intro q hq
    by_cases e : q = r
    · subst e
      rw [hw2, pk_un (by omega), pk_us, pk_us]
    · rw [g _ (by omega) (by omega) (by omega) (by omega) (by omega), pk_un e]
      exact hp q hq
  · intro q hq
    rw [pu_clr joi (by omega) (by omega)]
    by_cases e : q = r
    · subst e
      rw [hw2, pk_us, decide_eq_true rfl]
      simp [pu_bI]
    · rw [g _ (by omega) (by omega) (by omega) (by omega) (by omega), decide_eq_false e]
      simp
      exact hj q hq
  · intro t ht
    rw [g _ (by omega) (by omega) (by omega) (by omega) (by omega), ho _ (by omega)]
    exact hR.spe t ht
  · rw [g _ (by omega) (by omega) (by omega) (by omega) (by omega), ho _ (by omega)]
    exact hst
  · rw [hw2, pk_un (by omega), pk_un (by omega), pk_un (by omega), pk_us, ho 53 (by omega), hR.tus]
  · rw [g _ (by omega) (by omega) (by omega) (by omega) (by omega), ho _ (by omega)]
    exact hR.gif
/-- its bag put beside it -/
theorem pu_bagPut (h : pu_GP pl) {sit pla lug tur spe pas : Nat → Int32} {joi tus gif sto : Int32} {w2 : Nat → Int32} (hC : pu_RC pl sit pla lug tur spe pas joi tus gif sto w2) {r s : Nat} (hr : r < vN pl) (hs : s < 20) (hsv : vSeat pl s = true) (hb2 : vB2 pl s = true) (hp : pla r = nI s) (hw : w2 (8 + r) = -1) (h1 : sit (s ^^^ 1) = -2) (h2 : lug (s ^^^ 1) = -2) :
    pu_RC pl sit pla (upd lug (s ^^^ 1) (nI r)) tur spe pas joi tus gif sto (upd w2 (8 + r) (nI (s ^^^ 1))) := by
  have hn := h.n31
  have ex := pu_x20 s hs
  have hst := hC.sto
  have g : ∀ k, k ≠ 8 + r → upd w2 (8 + r) (nI (s ^^^ 1)) k = w2 k := fun k e => pk_un e
  refine ⟨fun q hq => by rw [g _ (by omega)]; exact hC.pla q hq, hC.plv, hC.sit, hC.uni, fun t ht => ?_, fun q hq => ?_, fun q hq => by rw [g _ (by omega)]; exact hC.tur q hq, fun q hq => by rw [g _ (by omega)]; exact hC.pas q hq, fun q hq => by rw [g _ (by omega)]; exact hC.joi q hq, fun t ht => by rw [g _ (by omega)]; exact hC.spe t ht, by rw [g _ (by omega)]; exact hst, by rw [g _ (by omega)]; exact hC.tus, by rw [g _ (by omega)]; exact hC.gif⟩
  · by_cases e : t = s ^^^ 1
    · subst e; exact Or.inr ⟨r, hr, pk_us, pk_us⟩
    · rw [pk_un e]
      rcases hC.lug t ht with ⟨a, b⟩ | ⟨q, hq, a, b⟩
      · refine Or.inl ⟨a, fun q hq z => ?_⟩
        by_cases e2 : q = r
        · subst e2
          rw [pk_us, nI_eq (by omega) (by omega)] at z
          exact e z.symm
        · rw [g _ (by omega)] at z; exact b q hq z
      · have e2 : q ≠ r := fun z => by subst z; rw [hw] at b; exact pu_ne1 (by omega) b.symm
        exact Or.inr ⟨q, hq, a, by rw [g _ (by omega)]; exact b⟩
  · by_cases e : q = r
    · subst e
      exact Or.inr ⟨s, hs, hsv, hb2, hp, pk_us, h1⟩
    · rw [g _ (by omega)]; exact hC.bag q hq
/-- sitting down: class and reference -/
theorem pu_sitDown (h : pu_GP pl) (hB : pu_RB pl bu) (hR : pu_RR pl rd (yW_r w)) (mo : MOT) {r s : Nat} (hr : r < vN pl) (hs : s < 20) (hsv : vSeat pl s = true) (hsn : sc_sitter (rd_scene rd) s = -2) (hv : vSits rd r = false) :
    ∃ rd2 w2, f_X6_sitDown rd pl (nI r) (nI s) = some rd2 ∧ f_X12_sitsDown mo w bu (nI r) (nI s) = some w2 ∧ pu_RR pl rd2 (yW_r w2) ∧ rd_place rd2 = upd (rd_place rd) r (nI s) ∧ rd_stops rd2 = rd_stops rd ∧ sc_looks (rd_scene rd2) = sc_looks (rd_scene rd) ∧ rd_spent rd2 = rd_spent rd ∧ pu_K (yW_r w2) (yW_r w) := by
  have hn := h.n31
  have ex := pu_x20 s hs
  have eb : cb_beside (pl_cab pl) s = if vB2 pl s then nI (s ^^^ 1) else -2 := by rw [h.bes s hs, hsv, Bool.true_and]
  -- the reference takes a bag away first
  have e0 : ∃ w0 : WT, f_X12_sitsDown mo w bu (nI r) (nI s) = f_X12_sitsDown_b22 mo bu (nI r) (nI s) w0 ∧ (∀ q, q < vN pl → yW_r w0 (8 + q) = if yW_r w (8 + q) = nI s then -1 else yW_r w (8 + q)) ∧ (∀ k, k < 8 ∨ 16 ≤ k → yW_r w0 k = yW_r w k) := by
    rw [f_X12_sitsDown, pu_bagInM h hB hR mo hs]
    show ∃ w0 : WT, (if rd_luggage rd s = (-2 : Int32) then _ else _) = _ ∧ _
    rcases hR.lug s hs with ⟨a, b⟩ | ⟨q0, hq0, a, b⟩
    · rw [if_pos a]
      exact ⟨w, rfl, fun q hq => by rw [if_neg (b q hq)], fun _ _ => rfl⟩
    · rw [a, if_neg (pu_ne2 (by omega)), pu_a8, if_pos (pu_inn (by omega) (by omega)), nI_clamp (by omega)]
      refine ⟨_, rfl, fun q hq => ?_, fun k hk => ?_⟩
      · show upd (yW_r w) (8 + q0) (-1) (8 + q) = _
        by_cases e : q = q0
        · subst e; rw [pk_us, if_pos b]
        · rw [pk_un (by omega), if_neg (fun z => e (pu_bagUni hR hq hq0 hs z b))]
      · show upd (yW_r w) (8 + q0) (-1) k = _
        rw [pk_un (by omega)]
  obtain ⟨w0, ew0, hw8, hwo⟩ := e0
  rw [ew0, f_X6_sitDown, if_pos (pu_inn hs (by omega)), nI_clamp (by omega), eb]
  refine pu_sitLoop h hB mo hr hs hsv (rd0 := rd) (w0 := w0) (fun q hq => by rw [hwo q (by omega)]; exact hR.pla q hq) (fun q hq => by
      obtain ⟨p, a, b⟩ := hR.plv q hq
      exact ⟨p, a, by omega⟩) hv (fun q hq => by rw [hwo _ (by omega)]; exact hR.pas q hq) (fun q hq => by rw [hwo _ (by omega)]; exact hR.joi q hq) (fun o o2 => ∃ rd2 w2, o = some rd2 ∧ o2 = some w2 ∧ pu_RR pl rd2 (yW_r w2) ∧ rd_place rd2 = upd (rd_place rd) r (nI s) ∧ rd_stops rd2 = rd_stops rd ∧ sc_looks (rd_scene rd2) = sc_looks (rd_scene rd) ∧ rd_spent rd2 = rd_spent rd ∧ pu_K (yW_r w2) (yW_r w)) ?_
  intro pas joi w1 n ho hp hj
  -- the reference's row behind it, no bag yet
  have hC := pu_seated h hR hr hs hsv hsn hv (pas := pas) (joi := joi) (w1 := yW_r w1) (w2 := upd (upd (upd (upd (upd (yW_r w1) r (nI s)) 53 (yW_r w1 53 + 1)) (16 + r) (yW_r w1 53 + 1)) (24 + r) 0) (32 + r) 0) (fun q hq => by rw [ho _ (by omega)]; exact hw8 q hq) (fun k hk => by rw [ho _ (by omega)]; exact hwo k (by omega)) hp hj rfl
  generalize ew2 : upd (upd (upd (upd (upd (yW_r w1) r (nI s)) 53 (yW_r w1 53 + 1)) (16 + r) (yW_r w1 53 + 1)) (24 + r) 0) (32 + r) 0 = wf at hC
  have e55 : pu_K wf (yW_r w) := fun k hk => by rw [← ew2, pk_un (by omega), pk_un (by omega), pk_un (by omega), pk_un (by omega), pk_un (by omega), ho k (by omega), hwo k (by omega)]
  have w8r : wf (8 + r) = -1 := by
    rw [← ew2, pk_un (by omega), pk_un (by omega), pk_un (by omega), pk_un (by omega), pk_un (by omega), ho _ (by omega), hw8 r hr]
    rcases hR.bag r hr with a | ⟨p, hp, _, _, a, _, _⟩
    · by_cases c : yW_r w (8 + r) = nI s
      · rw [if_pos c]
      · rw [if_neg c]; exact a
    · have e2 := pu_sitsP (by omega) a
      rw [hv, decide_eq_true hp] at e2
      cases e2
  have eM : f_X12_sitsDown_b25 mo bu (n + 1) (nI r) (nI s) (nI (vN pl)) w1 = f_X12_sitsDown_b176 mo bu (nI r) (nI s) (yW_set_r w1 wf) := by
    rw [f_X12_sitsDown_b25, hB.riders, h.riders.1, if_pos (nI_le (Nat.le_refl _) (by omega)), pu_z, if_pos (pu_inn (by omega) (by omega)), nI_clamp (by omega), f_X12_sitsDown_b129, if_pos (by decide), if_pos (by decide), f_X12_sitsDown_b140, if_pos (by decide), pu_a16, if_pos (pu_inn (by omega) (by omega)), nI_clamp (by omega), f_X12_sitsDown_b156, pu_a24, if_pos (pu_inn (by omega) (by omega)), nI_clamp (by omega), f_X12_sitsDown_b166, pu_a32, if_pos (pu_inn (by omega) (by omega)), nI_clamp (by omega), ← ew2]
    have e53 : ((53 : Int32)).toNatClampNeg = 53 := by decide
    rw [e53]
    show f_X12_sitsDown_b176 mo bu (nI r) (nI s) (upd (upd (upd (upd (upd (yW_r w1) r (nI s)) 53 (upd (yW_r w1) r (nI s) 53 + 1)) (16 + r) (upd (upd (yW_r w1) r (nI s)) 53 (upd (yW_r w1) r (nI s) 53 + 1) 53)) (24 + r) 0) (32 + r) 0) = _
    rw [pk_us, pk_un (show 53 ≠ r by omega)]
    rfl
  have eC : f_X6_sitDown_b16 pl (n + 1) (nI r) (nI s) (if vB2 pl s then nI (s ^^^ 1) else -2) (nI (vN pl)) (rd_set_passed (rd_set_joined rd joi) pas) = f_X6_sitDown_b148 pl (nI r) (if vB2 pl s then nI (s ^^^ 1) else -2) (rd_set_passed (rd_set_turn (rd_set_turns (rd_set_luggage (rd_set_scene (rd_set_place (rd_set_passed (rd_set_joined rd joi) pas) (upd (rd_place rd) r (nI s))) (sc_set_sitter (rd_scene rd) (upd (sc_sitter (rd_scene rd)) s (nI r)))) (upd (rd_luggage rd) s (-2))) (rd_turns rd + 1)) (upd (rd_turn rd) r (rd_turns rd + 1))) (upd pas r 0)) := by
    rw [f_X6_sitDown_b16, h.riders.1, if_pos (nI_le (Nat.le_refl _) (by omega)), if_pos (pu_inn (by omega) (by omega)), if_pos (pu_inn hs (by omega)), nI_clamp (by omega), nI_clamp (by omega), f_X6_sitDown_b113, if_pos (pu_inn hs (by omega)), nI_clamp (by omega), f_X6_sitDown_b131, if_pos (pu_inn (by omega) (by omega)), if_pos (pu_inn (by omega) (by omega)), nI_clamp (by omega)]
    rfl
  rw [eM, eC]
  generalize erd : rd_set_passed (rd_set_turn (rd_set_turns (rd_set_luggage (rd_set_scene (rd_set_place (rd_set_passed (rd_set_joined rd joi) pas) (upd (rd_place rd) r (nI s))) (sc_set_sitter (rd_scene rd) (upd (sc_sitter (rd_scene rd)) s (nI r)))) (upd (rd_luggage rd) s (-2))) (rd_turns rd + 1)) (upd (rd_turn rd) r (rd_turns rd + 1))) (upd pas r 0) = z0
  have ez : ∀ (z1 : RideT), z1 = rd_set_joined z0 (rd_joined z0 &&& (((1 : Int32) <<< (nI r &&& 31)) ^^^ (-1 : Int32))) → pu_RR pl z1 wf ∧ rd_place z1 = upd (rd_place rd) r (nI s) ∧ rd_stops z1 = rd_stops rd ∧ sc_looks (rd_scene z1) = sc_looks (rd_scene rd) ∧ rd_spent z1 = rd_spent rd := by
    intro z1 e1
    rw [e1, ← erd]
    exact ⟨hC, rfl, rfl, rfl, rfl⟩
  rw [f_X6_sitDown_b148, if_pos (pu_inn (by omega) (by omega)), nI_clamp (by omega), f_X12_sitsDown_b176, pu_besideM h hB mo hs]
  generalize ez1 : rd_set_joined z0 (rd_joined z0 &&& (((1 : Int32) <<< (nI r &&& 31)) ^^^ (-1 : Int32))) = z1
  obtain ⟨hz, p1, p2, p3, p4⟩ := ez z1 ez1.symm
  have hz2 : pu_RR pl z1 (yW_r (yW_set_r w1 wf)) := hz
  show ∃ rd2 w2, (if qr_hasBag (pl_riders pl) r = 0 then _ else _) = _ ∧ (if kb_in? (nI r) 8 then (if bu_hasBag bu (nI r).toNatClampNeg = 0 then _ else _) else none) = _ ∧ _
  rw [if_pos (pu_inn (by omega) (by omega)), nI_clamp (by omega), hB.bag r hr]
  by_cases c1 : qr_hasBag (pl_riders pl) r = 0
  · rw [if_pos c1, if_pos c1]
    exact ⟨z1, _, rfl, rfl, hz2, p1, p2, p3, p4, e55⟩
  · rw [if_neg c1, if_neg c1]
    cases c2 : vB2 pl s
    · exact ⟨z1, _, rfl, rfl, hz2, p1, p2, p3, p4, e55⟩
    · show ∃ rd2 w2, (if nI (s ^^^ 1) = (-2 : Int32) then _ else (f_X6_isFree z1 (nI (s ^^^ 1))).bind _) = _ ∧ (if nI (s ^^^ 1) = (-1 : Int32) then _ else (f_X12_freeSeats mo (yW_set_r w1 wf) bu).bind _) = _ ∧ _
      have sx := pu_seat_x hs hsv c2
      rw [if_neg (pu_ne2 (by omega)), if_neg (pu_ne1 (by omega)), pu_isFree z1 ex.1, pu_freeM h hB hz2 mo]
      show ∃ rd2 w2, (if pu_bI _ = 0 then _ else _) = _ ∧ ((f_X12_has (pu_mk (vFree pl z1) 20) (nI (s ^^^ 1))).bind _) = _ ∧ _
      rw [pu_has _ (by omega), pu_mk_bt _ 20 (by omega), decide_eq_true ex.1, Bool.true_and, pu_ifb]
      show ∃ rd2 w2, _ ∧ (if pu_bI (vFree pl z1 (s ^^^ 1)) = 0 then _ else _) = _ ∧ _
      rw [pu_ifb]
      have ef : vFree pl z1 (s ^^^ 1) = (decide (sc_sitter (rd_scene z1) (s ^^^ 1) = -2) && decide (rd_luggage z1 (s ^^^ 1) = -2)) := by
        unfold vFree
        rw [show vSeat pl (s ^^^ 1) = true from sx.1, Bool.true_and]
      rw [ef]
      cases c3 : (decide (sc_sitter (rd_scene z1) (s ^^^ 1) = -2) && decide (rd_luggage z1 (s ^^^ 1) = -2))
      · exact ⟨z1, _, rfl, rfl, hz2, p1, p2, p3, p4, e55⟩
      · rw [Bool.and_eq_true, decide_eq_true_iff, decide_eq_true_iff] at c3
        rw [pu_tt, pu_tt, if_pos (pu_inn ex.1 (by omega)), nI_clamp (by omega), pu_a8, if_pos (pu_inn (by omega) (by omega)), nI_clamp (by omega)]
        refine ⟨_, _, rfl, rfl, ?_, p1, p2, p3, p4, ?_⟩
        · exact pu_bagPut h hz hr hs hsv c2 (by rw [p1, pk_us]) w8r c3.1 c3.2
        · intro k hk
          show upd wf (8 + r) _ k = _
          rw [pk_un (by omega)]; exact e55 k hk
/-- getting up -/
theorem pu_up (h : pu_GP pl) (hR : pu_RR pl rd (yW_r w)) {r t : Nat} (hr : r < vN pl) (ht : t = 101 ∨ t = 102) (mo : MOT) :
    ∃ rd2 w2, f_X6_getUp rd pl (nI r) = some rd2 ∧ f_X12_getsUp mo w (nI r) (nI t) = some w2 ∧ pu_RR pl (rd_set_place rd2 (upd (rd_place rd2) r (nI t))) (yW_r w2) ∧ rd_place rd2 = rd_place rd ∧ rd_stops rd2 = rd_stops rd ∧ sc_looks (rd_scene rd2) = sc_looks (rd_scene rd) ∧ rd_spent rd2 = rd_spent rd ∧ pu_K (yW_r w2) (yW_r w) ∧ (∀ s, s < 20 → rd_place rd r = nI s → sc_sitter (rd_scene rd2) s = -2) ∧ (∀ s, s < 20 → ¬ rd_place rd r = nI s → sc_sitter (rd_scene rd2) s = sc_sitter (rd_scene rd) s) := by
  have hn := h.n31
  have hst := hR.sto
  obtain ⟨p, ep, hp⟩ := hR.plv r hr
  have eM : f_X12_getsUp mo w (nI r) (nI t) = some (yW_set_r w (upd (upd (yW_r w) r (nI t)) (8 + r) (-1))) := by
    rw [f_X12_getsUp, pu_z, if_pos (pu_inn (by omega) (by omega)), nI_clamp (by omega), f_X12_getsUp_b9, pu_a8, if_pos (pu_inn (by omega) (by omega)), nI_clamp (by omega), f_X12_getsUp_b19]
    rfl
  rw [eM]
  have g : ∀ k, k ≠ r → k ≠ 8 + r → upd (upd (yW_r w) r (nI t)) (8 + r) (-1) k = yW_r w k := fun k a b => by rw [pk_un b, pk_un a]
  have gr : upd (upd (yW_r w) r (nI t)) (8 + r) (-1) r = nI t := by rw [pk_un (by omega), pk_us]
  -- the relation behind it, for a new row of sitters and of bags
  have key : ∀ (sit lug : Nat → Int32), (∀ s, s < 20 → rd_place rd r = nI s → sit s = -2) → (∀ s, s < 20 → ¬ rd_place rd r = nI s → sit s = sc_sitter (rd_scene rd) s) → (∀ s, s < 20 → lug s = if yW_r w (8 + r) = nI s then -2 else rd_luggage rd s) → pu_RC pl sit (upd (rd_place rd) r (nI t)) lug (rd_turn rd) (rd_spent rd) (rd_passed rd) (rd_joined rd) (rd_turns rd) (rd_gifts rd) (rd_stops rd) (upd (upd (yW_r w) r (nI t)) (8 + r) (-1)) := by
    intro sit lug s1 s2 hl
    refine ⟨fun q hq => ?_, fun q hq => ?_, fun s hs => ?_, fun q q2 s hq hq2 hs a b => ?_, fun s hs => ?_, fun q hq => ?_, fun q hq => by rw [g _ (by omega) (by omega)]; exact hR.tur q hq, fun q hq => by rw [g _ (by omega) (by omega)]; exact hR.pas q hq, fun q hq => by rw [g _ (by omega) (by omega)]; exact hR.joi q hq, fun s hs => by rw [g _ (by omega) (by omega)]; exact hR.spe s hs, by rw [g _ (by omega) (by omega)]; exact hst, by rw [g _ (by omega) (by omega)]; exact hR.tus, by rw [g _ (by omega) (by omega)]; exact hR.gif⟩
    · by_cases e : q = r
      · subst e; rw [gr, pk_us]
      · rw [g _ e (by omega), pk_un e]; exact hR.pla q hq
    · by_cases e : q = r
      · subst e; exact ⟨t, pk_us, by omega⟩
      · rw [pk_un e]; exact hR.plv q hq
    · by_cases c : rd_place rd r = nI s
      · refine Or.inl ⟨s1 s hs c, fun q hq z => ?_⟩
        by_cases e : q = r
        · subst e; rw [pk_us, nI_eq (by omega) (by omega)] at z; omega
        · rw [pk_un e] at z; exact e (hR.uni q r s hq hr hs z c)
      · rw [s2 s hs c]
        rcases hR.sit s hs with ⟨a, b⟩ | ⟨q, hq, a, b⟩
        · refine Or.inl ⟨a, fun q hq z => ?_⟩
          by_cases e : q = r
          · subst e; rw [pk_us, nI_eq (by omega) (by omega)] at z; omega
          · rw [pk_un e] at z; exact b q hq z
        · have e : q ≠ r := fun z => by subst z; exact c b
          exact Or.inr ⟨q, hq, a, by rw [pk_un e]; exact b⟩
    · by_cases e : q = r
      · subst e; rw [pk_us, nI_eq (by omega) (by omega)] at a; omega
      · by_cases e2 : q2 = r
        · subst e2; rw [pk_us, nI_eq (by omega) (by omega)] at b; omega
        · rw [pk_un e] at a; rw [pk_un e2] at b
          exact hR.uni q q2 s hq hq2 hs a b
    · rw [hl s hs]
      by_cases c : yW_r w (8 + r) = nI s
      · rw [if_pos c]
        refine Or.inl ⟨rfl, fun q hq z => ?_⟩
        by_cases e : q = r
        · subst e; rw [pk_us] at z; exact pu_ne1 (by omega) z.symm
        · rw [g _ (by omega) (by omega)] at z
          exact e (pu_bagUni hR hq hr hs z c)
      · rw [if_neg c]
        rcases hR.lug s hs with ⟨a, b⟩ | ⟨q, hq, a, b⟩
        · refine Or.inl ⟨a, fun q hq z => ?_⟩
          by_cases e : q = r
          · subst e; rw [pk_us] at z; exact pu_ne1 (by omega) z.symm
          · rw [g _ (by omega) (by omega)] at z; exact b q hq z
        · have e : q ≠ r := fun z => by subst z; exact c b
          exact Or.inr ⟨q, hq, a, by rw [g _ (by omega) (by omega)]; exact b⟩
    · by_cases e : q = r
      · subst e; exact Or.inl pk_us
      · rw [g _ (by omega) (by omega)]
        rcases hR.bag q hq with a | ⟨p2, hp2, v1, v2, a, b, d⟩
        · exact Or.inl a
        · refine Or.inr ⟨p2, hp2, v1, v2, by rw [pk_un e]; exact a, b, ?_⟩
          have x := pu_x20 p2 hp2
          by_cases c : rd_place rd r = nI (p2 ^^^ 1)
          · exact s1 _ x.1 c
          · rw [s2 _ x.1 c]; exact d
  have e55 : pu_K (upd (upd (yW_r w) r (nI t)) (8 + r) (-1)) (yW_r w) := fun k hk => g k (by omega) (by omega)
  rw [f_X6_getUp]
  simp only [if_pos (pu_inn (c := r) (N := 8) (by omega) (by omega)), nI_clamp (show r < 2 ^ 31 by omega), ep]
  have e20 : (nI p < (20 : Int32)) = (p < 20) := by
    show (nI p < nI 20) = _
    rw [nI_ltI (by omega) (by omega)]
  simp only [e20]
  by_cases c : p < 20
  · have hsv : vSeat pl p = true := by rcases hp with hp | hp | hp | hp
                                       · exact hp.2
                                       · omega
                                       · omega
                                       · omega
    have ex := pu_x20 p c
    simp only [if_pos c, if_pos (pu_inn (c := p) (N := 20) c (by omega)), nI_clamp (show p < 2 ^ 31 by omega), h.bes p c, hsv, Bool.true_and]
    have s1 : ∀ s, s < 20 → rd_place rd r = nI s → upd (sc_sitter (rd_scene rd)) p (-2) s = -2 := fun s hs e => by
      rw [ep, nI_eq (by omega) (by omega)] at e
      subst e; exact pk_us
    have s2 : ∀ s, s < 20 → ¬ rd_place rd r = nI s → upd (sc_sitter (rd_scene rd)) p (-2) s = sc_sitter (rd_scene rd) s := fun s hs e => by
      rw [ep, nI_eq (by omega) (by omega)] at e
      exact pk_un (fun z => e z.symm)
    have nobag : vB2 pl p = false ∨ ¬ rd_luggage rd (p ^^^ 1) = nI r → ∀ s, s < 20 → rd_luggage rd s = if yW_r w (8 + r) = nI s then -2 else rd_luggage rd s := by
      intro hz s hs
      by_cases c1 : yW_r w (8 + r) = nI s
      · rcases hR.bag r hr with a | ⟨p2, hp2, v1, v2, a, b, d⟩
        · rw [a] at c1; exact absurd c1.symm (pu_ne1 (by omega))
        · rw [ep, nI_eq (by omega) (by omega)] at a
          subst a
          rw [b, nI_eq (by omega) (by omega)] at c1
          subst c1
          rcases hz with z | z
          · rw [z] at v2; cases v2
          · rcases hR.lug (p ^^^ 1) ex.1 with ⟨x, y⟩ | ⟨q, hq, x, y⟩
            · exact absurd b (y r hr)
            · have := pu_bagUni hR hq hr ex.1 y b
              subst this
              exact absurd x z
      · rw [if_neg c1]
    cases c2 : vB2 pl p
    · show ∃ rd2 w2, (if (-2 : Int32) = (-2 : Int32) then _ else _) = _ ∧ _
      rw [if_pos rfl]
      exact ⟨_, _, rfl, rfl, key _ _ s1 s2 (nobag (Or.inl c2)), rfl, rfl, rfl, rfl, e55, fun s hs e => s1 s hs (ep.trans e), fun s hs e => s2 s hs (fun z => e (ep.symm.trans z))⟩
    · rw [pu_tt]
      show ∃ rd2 w2, (if nI (p ^^^ 1) = (-2 : Int32) then _ else if kb_in? (nI (p ^^^ 1)) 20 then (if rd_luggage rd (nI (p ^^^ 1)).toNatClampNeg = nI r then _ else _) else none) = _ ∧ _
      rw [if_neg (pu_ne2 (by omega)), if_pos (pu_inn ex.1 (by omega)), if_pos (pu_inn ex.1 (by omega)), nI_clamp (by omega)]
      by_cases c3 : rd_luggage rd (p ^^^ 1) = nI r
      · rw [if_pos c3]
        have hbag : yW_r w (8 + r) = nI (p ^^^ 1) := by
          rcases hR.lug (p ^^^ 1) ex.1 with ⟨x, y⟩ | ⟨q, hq, x, y⟩
          · rw [x] at c3; exact absurd c3.symm (pu_ne2 (by omega))
          · rw [x, nI_eq (by omega) (by omega)] at c3
            subst c3; exact y
        refine ⟨_, _, rfl, rfl, key _ _ s1 s2 ?_, rfl, rfl, rfl, rfl, e55, fun s hs e => s1 s hs (ep.trans e), fun s hs e => s2 s hs (fun z => e (ep.symm.trans z))⟩
        intro s hs
        show upd (rd_luggage rd) (p ^^^ 1) (-2) s = _
        rw [hbag]
        by_cases e : s = p ^^^ 1
        · subst e; rw [pk_us, if_pos rfl]
        · rw [pk_un e, if_neg (fun z => by rw [nI_eq (by omega) (by omega)] at z; exact e z.symm)]
      · rw [if_neg c3]
        exact ⟨_, _, rfl, rfl, key _ _ s1 s2 (nobag (Or.inr c3)), rfl, rfl, rfl, rfl, e55, fun s hs e => s1 s hs (ep.trans e), fun s hs e => s2 s hs (fun z => e (ep.symm.trans z))⟩
  · rw [if_neg c]
    refine ⟨_, _, rfl, rfl, key _ _ (fun s hs e => ?_) (fun _ _ _ => rfl) (fun s hs => ?_), rfl, rfl, rfl, rfl, e55, fun s hs e => ?_, fun _ _ _ => rfl⟩
    · rw [ep, nI_eq (by omega) (by omega)] at e; omega
    · rcases hR.bag r hr with a | ⟨p2, hp2, v1, v2, a, b, d⟩
      · rw [a, if_neg (fun z => pu_ne1 (by omega) z.symm)]
        rfl
      · rw [ep, nI_eq (by omega) (by omega)] at a; omega
    · rw [nI_eq (by omega) (by omega)] at e; omega
end PS
