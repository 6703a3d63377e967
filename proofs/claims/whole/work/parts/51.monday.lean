/-! a new one in a seat that is somebody's -/
section PM
variable {pl : PlanT} {bu : BusT} {rd : RideT} {w : WT} {tp : TopT}
/-- the looks of the riders as told -/
def pu_LK (pl : PlanT) (rd : RideT) : Prop := ∀ r, r < vN pl → sc_looks (rd_scene rd) r = qr_looks (pl_riders pl) r
theorem pu_drive (h : pu_GP pl) (hB : pu_RB pl bu) (hR : pu_RR pl rd (yW_r w)) {looks : LooksT} (hL : pu_RL pl rd (yLooks_r looks)) (hK : pu_LK pl rd) (mo : MOT) : ∀ (m k t : Nat) (lf comer : Int32) (z : SceneT) (who : WhoT) (look : LookT) (g : Nat → Nat) (f1 f2 : Nat), k + m = 9 → m < f1 → m < f2 → t < 20 → bt lf t = true → (∀ s, bt lf s = true → vSeat pl s = true) → pu_RS pl (sc_set_sitter z (upd (sc_sitter z) t comer)) (yWho_r who) (yLook_r look) → sc_looks z 8 = 5 → (∀ r, r < vN pl → sc_looks z r = yLooks_r looks r) → (∀ s, bt lf s = true → sc_sitter z s = sc_sitter (rd_scene rd) s) → (∀ j, j < k → g j < vN pl) → (∀ i j, i < j → j < k → g i ≠ g j) → (∀ s q, bt lf s = true → sc_sitter (rd_scene rd) s = nI q → q < vN pl → ∀ j, j < k → g j ≠ q) →
    ∃ v z2 who2 look2, f_X10_drivenFrom_b37 tp rd pl f1 lf comer (nI t) (nI k) (nI k) z = some (v, z2) ∧ f_X12_monday_b57 w looks bu f2 (sc_sitter z t) (nI t) lf (nI k) (mo_set_thrown mo 0) who look = some (v, pu_mt mo 0, who2, look2)
  | 0, k, _, _, _, _, _, _, g, _, _, hk, _, _, _, _, _, _, _, _, _, hg, hd, _ => by
    have hn := h.riders.2.2
    have := fb_holes (vN pl) k g hg hd
    omega
  | m + 1, k, t, lf, comer, z, who, look, g, f1, f2, hk, h1, h2, ht, hbt, hlf, hS, h8, hlk, horig, hg, hd, hx => by
    have hn := h.riders.2.2
    have hk8 := fb_holes (vN pl) k g hg hd
    obtain ⟨f1, rfl⟩ : ∃ q, f1 = q + 1 := ⟨f1 - 1, by omega⟩
    obtain ⟨f2, rfl⟩ : ∃ q, f2 = q + 1 := ⟨f2 - 1, by omega⟩
    have n8 : ¬ (8 : Int32) < nI k := by
      rw [show (8 : Int32) = nI 8 from rfl, nI_ltI (by omega) (by omega)]; omega
    rw [f_X10_drivenFrom_b37, if_neg n8, if_pos (pu_inn ht (by omega)), if_pos (pu_inn ht (by omega)), nI_clamp (by omega), f_X10_drivenFrom_b67, f_X12_monday_b57, h.riders.1]
    rw [horig t hbt]
    rcases hR.sit t ht with ⟨a, _⟩ | ⟨r, hr, a, ap⟩
    · rw [a, if_pos (by decide), if_pos rfl]
      exact ⟨nI k, _, who, look, rfl, rfl⟩
    · have hri := h.rule r hr
      have hR4 := h.rules.2
      rw [a, if_neg (nI_pos (by omega)), if_pos (nI_lt hr (by omega)), if_neg (pu_ne2 (by omega))]
      simp only [if_pos (pu_inn (c := r) (N := 8) (by omega) (by omega)), nI_clamp (show r < 2 ^ 31 by omega), hri.1, if_pos (pu_inn (c := vRule pl r) (N := 4) (by omega) (by omega)), nI_clamp (show vRule pl r < 2 ^ 31 by omega), hB.rule r hr, nI_1]
      generalize elf : lf &&& (((1 : Int32) <<< (nI t &&& 31)) ^^^ (-1 : Int32)) = lf2
      have hl2 : ∀ s, bt lf2 s = true → bt lf s = true ∧ s ≠ t := fun s hs => by
        have hs32 : s < 32 := Nat.lt_of_not_le (fun z => by rw [b_big z] at hs; cases hs)
        rw [← elf, pu_clr lf (by omega) hs32, Bool.and_eq_true] at hs
        exact ⟨hs.1, fun e => by rw [e, decide_eq_true rfl] at hs; exact absurd hs.2 (by decide)⟩
      have elk : yLooks_r looks r = qr_looks (pl_riders pl) r := (hL.1 r hr).trans (hK r hr)
      obtain ⟨b, b1, b2, b3, b4⟩ := pu_best h hB (mo_set_thrown mo 0) hS (pu_LSof hS h.n31 h8 (fun q hq => by
        show pu_lk (sc_looks z q)
        rw [hlk q hq]; exact hL.2.2 q hq)) (rider := nI r) (fr := qr_friends (pl_riders pl) r) (Or.inl ⟨r, hr, rfl, rfl⟩) (qr_looks (pl_riders pl) r) (h.looks r hr) hri.2 (lf := lf2) (fun s hs => hlf s (hl2 s hs).1)
      rw [b1, pu_sb, elk]
      by_cases c0 : lf2 = 0
      · have eb : b = 0 := b_ext fun i hi => by
          rw [b_0]
          cases hb : bt b i
          · rfl
          · have := b3 i hb
            rw [c0, b_0] at this
            cases this
        rw [if_pos eb, if_pos c0]
        exact ⟨_, _, who, look, rfl, rfl⟩
      · rw [if_neg (b4 c0), if_neg c0, b2, pu_sb, pu_lb]
        have hfs : fa_first (bt b) 20 < 20 := by
          rcases Nat.lt_or_ge (fa_first (bt b) 20) 20 with q | q
          · exact q
          · refine absurd (b_ext fun i hi => ?_) (b4 c0)
            rw [b_0]
            cases hb : bt b i
            · rfl
            · have hi20 := (h.in20 (hlf i (hl2 i (b3 i hb)).1)).1
              rw [fa_first_no (bt b) 20 i (by omega)] at hb
              cases hb
        rw [if_pos hfs, pu_fst b (N := 20) (by omega) hfs, pu_sb, pu_sb]
        have hy := fa_first_yes (bt b) 20 hfs
        generalize fa_first (bt b) 20 = t2 at hfs hy
        have h2l := hl2 t2 (b3 t2 hy)
        have ex := pu_x20 t2 hfs
        rw [if_pos (pu_inn hfs (by omega)), if_pos (pu_inn hfs (by omega)), nI_clamp (by omega), f_X12_monday_b129, if_pos (pu_inn (by omega) (by omega)), if_pos (pu_inn hfs (by omega)), nI_clamp (by omega), nI_clamp (by omega), f_X12_monday_b141]
        -- who sits in the next one's seat
        have hz2 : sc_sitter (sc_set_sitter z (upd (sc_sitter z) t comer)) t2 = sc_sitter (rd_scene rd) t2 := by
          show upd (sc_sitter z) t comer t2 = _
          rw [pk_un h2l.2]
          exact horig t2 h2l.1
        have hw2 : yWho_r who t2 = sc_sitter (sc_set_sitter z (upd (sc_sitter z) t comer)) t2 := by
          rcases hS t2 hfs with ⟨x, y⟩ | ⟨q, hq, x, y, _⟩ | ⟨x, y, _⟩
          · rw [x, y]
          · rw [x, y]
          · rw [hz2] at x
            rcases hR.sit t2 hfs with ⟨u, _⟩ | ⟨q, hq, u, _⟩
            · rw [u] at x; exact absurd x.symm (pu_ne2 (by omega))
            · rw [u, nI_eq (by omega) (by omega)] at x; omega
        rw [hw2]
        refine pu_drive h hB hR hL hK mo m (k + 1) t2 lf2 (nI r) (sc_set_sitter z (upd (sc_sitter z) t comer)) _ _ (fun j => if j = k then r else g j) f1 f2 (by omega) (by omega) (by omega) hfs (b3 t2 hy) (fun s hs => hlf s (hl2 s hs).1) ?_ h8 hlk ?_ ?_ ?_ ?_
        · intro s hs
          show (upd (upd (sc_sitter z) t comer) t2 (nI r) s = -2 ∧ upd (yWho_r who) t2 (nI r) s = -2) ∨ (∃ q, q < vN pl ∧ upd (upd (sc_sitter z) t comer) t2 (nI r) s = nI q ∧ upd (yWho_r who) t2 (nI r) s = nI q ∧ upd (yLook_r look) t2 (yLooks_r looks r) s = sc_looks z q) ∨ (upd (upd (sc_sitter z) t comer) t2 (nI r) s = nI 8 ∧ upd (yWho_r who) t2 (nI r) s = nI 99 ∧ upd (yLook_r look) t2 (yLooks_r looks r) s = sc_looks z 8)
          by_cases e : s = t2
          · subst e
            exact Or.inr (Or.inl ⟨r, hr, pk_us, pk_us, by rw [pk_us]; exact (hlk r hr).symm⟩)
          · rw [pk_un e, pk_un e, pk_un e]
            exact hS s hs
        · intro s hs
          show upd (sc_sitter z) t comer s = _
          rw [pk_un (hl2 s hs).2]
          exact horig s (hl2 s hs).1
        · intro j hj
          show (if j = k then r else g j) < vN pl
          by_cases e : j = k
          · rw [if_pos e]; exact hr
          · rw [if_neg e]; exact hg j (by omega)
        · intro i j hij hj
          show (if i = k then r else g i) ≠ (if j = k then r else g j)
          rw [if_neg (show ¬ i = k by omega)]
          by_cases e : j = k
          · rw [if_pos e]; exact hx t r hbt a hr i (by omega)
          · rw [if_neg e]; exact hd i j hij (by omega)
        · intro s q hs es hq j hj
          show (if j = k then r else g j) ≠ q
          by_cases e : j = k
          · rw [if_pos e]
            intro z2
            subst z2
            have hs20 := (h.in20 (hlf s (hl2 s hs).1)).1
            rcases hR.sit s hs20 with ⟨u, _⟩ | ⟨q2, hq2, u, u2⟩
            · rw [u] at es; exact absurd es.symm (pu_ne2 (by omega))
            · rw [u, nI_eq (by omega) (by omega)] at es
              subst es
              rw [u2, nI_eq (by omega) (by omega)] at ap
              exact (hl2 s hs).2 ap
          · rw [if_neg e]; exact hx s q (hl2 s hs).1 es hq j (by omega)
theorem pu_monday (h : pu_GP pl) (hB : pu_RB pl bu) (hR : pu_RR pl rd (yW_r w)) {looks : LooksT} (hL : pu_RL pl rd (yLooks_r looks)) (hK : pu_LK pl rd) (hb : tp_hasBus tp = 1) (mo : MOT) (sn : SceneT) (who : WhoT) (look : LookT) (x : Int32) :
    ∃ v t sn2 who2 look2, ¬ t = (4 : Int32) ∧ f_X10_monday tp rd pl sn x = some (v, tp_set_latestTrouble tp t, sn2) ∧ f_X12_monday mo w looks who look bu x = some (v, pu_mt mo t, who2, look2) := by
  have hn := h.n31
  rw [f_X10_monday, f_X12_monday, f_X12_monday_b5]
  rcases pu_seatX h hB hb (mo_set_thrown mo 0) x with ⟨s, hs, rfl, hv, e1, e2⟩ | ⟨e1, e2⟩
  · obtain ⟨who1, look1, s1, hS⟩ := pu_sees h hB hR hL (mo_set_thrown mo 0) who look (but := -1) (fun r hr e => absurd e (pu_ne1 (by omega)))
    rw [e1, e2, pu_sb, pu_sb, if_neg pu_10, if_neg pu_10, s1, pu_sb, f_X10_drivenFrom, f_X9_copyFrom, pu_sb, f_X10_drivenFrom_b14, f_X12_monday_b24, if_pos (pu_inn hs (by omega)), pu_allSeatsM h hB, pu_sb, if_pos (pu_inn hs (by omega)), nI_clamp (by omega), f_X12_monday_b50, if_pos (pu_inn hs (by omega)), nI_clamp (by omega), h.seats]
    have c0 : ((0 : Int32)).toNatClampNeg = 0 := by decide
    have c9 : ((9 : Int32)).toNatClampNeg = 9 := by decide
    have c20 : ((20 : Int32)).toNatClampNeg = 20 := by decide
    rw [c0, c9, c20]
    generalize ez : sc_set_looks (sc_set_sitter sn (va_cpy (sc_sitter (rd_scene rd)) (sc_sitter sn) 0 0 20)) (va_cpy (sc_looks (rd_scene rd)) (sc_looks (sc_set_sitter sn (va_cpy (sc_sitter (rd_scene rd)) (sc_sitter sn) 0 0 20))) 0 0 9) = z
    have zs : ∀ q, q < 20 → sc_sitter z q = sc_sitter (rd_scene rd) q := fun q hq => by
      rw [← ez]
      show va_cpy (sc_sitter (rd_scene rd)) (sc_sitter sn) 0 0 20 q = _
      exact sb_cpy0 hq
    have zl : ∀ q, q < 9 → sc_looks z q = sc_looks (rd_scene rd) q := fun q hq => by
      rw [← ez]
      show va_cpy (sc_looks (rd_scene rd)) (sc_looks sn) 0 0 9 q = _
      exact sb_cpy0 hq
    have hbt : ∀ q, bt (pu_mk (vSeat pl) 20) q = true → q < 20 ∧ vSeat pl q = true := fun q hq => by
      rw [pu_mk_bt _ 20 (by omega), Bool.and_eq_true, decide_eq_true_iff] at hq
      exact hq
    have hw1 : yWho_r who1 s = sc_sitter z s := by
      rw [zs s hs]
      rcases hS s hs with ⟨a, b⟩ | ⟨q, hq, a, b, _⟩ | ⟨a, b, _⟩
      · rw [a, b]
      · rw [a, b]
      · rcases hR.sit s hs with ⟨u, _⟩ | ⟨q, hq, u, _⟩
        · rw [u] at a; exact absurd a.symm (pu_ne2 (by omega))
        · rw [u, nI_eq (by omega) (by omega)] at a; omega
    obtain ⟨v, z2, who2, look2, d1, d2⟩ := pu_drive (tp := tp) h hB hR hL hK mo 9 0 s (pu_mk (vSeat pl) 20) 8 z (yWho_set_r who1 (upd (yWho_r who1) s 99)) (yLook_set_r look1 (upd (yLook_r look1) s 5)) (fun _ => 0) 4096 4096 rfl (by omega) (by omega) hs (by rw [pu_mk_bt _ 20 (by omega), decide_eq_true hs, hv]; rfl) (fun q hq => (hbt q hq).2) (by
      intro q hq
      show (upd (sc_sitter z) s 8 q = -2 ∧ upd (yWho_r who1) s 99 q = -2) ∨ (∃ r, r < vN pl ∧ upd (sc_sitter z) s 8 q = nI r ∧ upd (yWho_r who1) s 99 q = nI r ∧ upd (yLook_r look1) s 5 q = sc_looks z r) ∨ (upd (sc_sitter z) s 8 q = nI 8 ∧ upd (yWho_r who1) s 99 q = nI 99 ∧ upd (yLook_r look1) s 5 q = sc_looks z 8)
      by_cases e : q = s
      · subst e
        exact Or.inr (Or.inr ⟨pk_us, pk_us, by rw [pk_us, zl 8 (by omega)]; exact hL.2.1.symm⟩)
      · rw [pk_un e, pk_un e, pk_un e, zs q hq]
        rcases hS q hq with x | ⟨r, hr, x1, x2, x3⟩ | ⟨x1, x2, x3⟩
        · exact Or.inl x
        · exact Or.inr (Or.inl ⟨r, hr, x1, x2, by rw [x3, zl r (by omega)]⟩)
        · exact Or.inr (Or.inr ⟨x1, x2, by rw [x3, zl 8 (by omega)]⟩)) (by rw [zl 8 (by omega)]; exact hL.2.1) (fun r hr => by rw [zl r (by omega)]; exact (hL.1 r hr).symm) (fun q hq => zs q (hbt q hq).1) (fun j hj => absurd hj (by omega)) (fun i j _ hj => absurd hj (by omega)) (fun _ _ _ _ _ j hj => absurd hj (by omega))
    have d1 : f_X10_drivenFrom_b37 tp rd pl 4096 (pu_mk (vSeat pl) 20) 8 (nI s) 0 0 z = some (v, z2) := d1
    rw [d1, pu_sb, hw1]
    exact ⟨v, 0, z2, who2, look2, by decide, rfl, d2⟩
  · rw [e1, e2, pu_sb, pu_sb, if_pos rfl, if_pos rfl]
    exact ⟨_, 1, sn, who, look, by decide, rfl, rfl⟩
end PM
