/-! who comes on at this stop; ways -/
section PC
variable {pl : PlanT} {bu : BusT} {rd : RideT} {w : WT} {tp : TopT}
/-- the c who come on at stop st, in order -/
def pu_CO (pl : PlanT) (st : Nat) (c : Nat) (b : Nat → Nat) : Prop := (∀ j, j < c → b j < vN pl) ∧ (∀ j, j < c → vOn pl (b j) = st) ∧ (∀ i j, i < j → j < c → b i < b j) ∧ (∀ r, r < vN pl → vOn pl r = st → ∃ j, j < c ∧ b j = r)
theorem pu_CO.lt {pl : PlanT} {st : Nat} {c : Nat} {b : Nat → Nat} (h : pu_CO pl st c b) : ∀ j, j < c → b j < vN pl := h.1
theorem pu_CO.on {pl : PlanT} {st : Nat} {c : Nat} {b : Nat → Nat} (h : pu_CO pl st c b) : ∀ j, j < c → vOn pl (b j) = st := h.2.1
theorem pu_CO.inc {pl : PlanT} {st : Nat} {c : Nat} {b : Nat → Nat} (h : pu_CO pl st c b) : ∀ i j, i < j → j < c → b i < b j := h.2.2.1
theorem pu_CO.all {pl : PlanT} {st : Nat} {c : Nat} {b : Nat → Nat} (h : pu_CO pl st c b) : ∀ r, r < vN pl → vOn pl r = st → ∃ j, j < c ∧ b j = r := h.2.2.2
theorem pu_comers (h : pu_GP pl) (hB : pu_RB pl bu) (hR : pu_RR pl rd (yW_r w)) (mo : MOT) (od : OddsT) (co : ComingT) :
    ∃ c b od' co', c ≤ 8 ∧ f_X3_gather od pl (rd_stops rd) = some (nI c, od') ∧ od_count od' = nI c ∧ (∀ j, j < c → od_boarding od' j = nI (b j)) ∧ f_X12_comes mo w co bu = some (mo_set_comers mo (nI c), co') ∧ (∀ j, j < c → yComing_r co' j = nI (b j)) ∧ pu_CO pl (vSt (rd_stops rd)) c b := by
  have hn := h.n31
  have hs := hR.sto
  have on : ∀ i, i < vN pl → (qr_on (pl_riders pl) i = rd_stops rd ↔ vOn pl i = vSt (rd_stops rd)) := fun i hi => by
    have := (h.on i hi).2
    rw [hs.2.1, (h.on i hi).1]
    have e : vSt (nI (vSt (rd_stops rd))) = vSt (rd_stops rd) := by rw [← hs.2.1]
    rw [e]
    exact nI_eq (by omega) (by omega)
  rw [f_X3_gather, f_X12_comes, f_X12_comes_b5]
  refine pu_for2 (fun n i (z : OddsT) => f_X3_gather_b7 pl n (rd_stops rd) i z) (fun n i (z : MOT × ComingT) => f_X12_comes_b7 w bu n i z.1 z.2) (vN pl)
    (fun i z y => ∃ c b, c ≤ i ∧ od_count z = nI c ∧ (∀ j, j < c → od_boarding z j = nI (b j)) ∧ y.1 = mo_set_comers mo (nI c) ∧ (∀ j, j < c → yComing_r y.2 j = nI (b j)) ∧ (∀ j, j < c → b j < i) ∧ (∀ j, j < c → vOn pl (b j) = vSt (rd_stops rd)) ∧ (∀ i j, i < j → j < c → b i < b j) ∧ ∀ r, r < i → vOn pl r = vSt (rd_stops rd) → ∃ j, j < c ∧ b j = r)
    (fun o o2 => ∃ c b od' co', c ≤ 8 ∧ o = some (nI c, od') ∧ od_count od' = nI c ∧ (∀ j, j < c → od_boarding od' j = nI (b j)) ∧ o2 = some (mo_set_comers mo (nI c), co') ∧ (∀ j, j < c → yComing_r co' j = nI (b j)) ∧ pu_CO pl (vSt (rd_stops rd)) c b) ?_ ?_ (vN pl) 0 (od_set_count od 0) (mo_set_comers mo 0, co) 4096 (by omega) (by omega)
    ⟨0, fun _ => 0, by omega, rfl, fun j hj => by omega, rfl, fun j hj => by omega, fun j hj => by omega, fun j hj => by omega, fun i j _ hj => by omega, fun r hr => by omega⟩
  · rintro n i z ⟨y1, y2⟩ hi ⟨c, b, a1, a2, a3, a4, a5, a6, a7, a8, a9⟩
    replace a4 : y1 = mo_set_comers mo (nI c) := a4
    replace a5 : ∀ j, j < c → yComing_r y2 j = nI (b j) := a5
    subst a4
    have e1 : f_X3_gather_b7 pl (n + 1) (rd_stops rd) (nI i) z = if vOn pl i = vSt (rd_stops rd) then f_X3_gather_b7 pl n (rd_stops rd) (nI (i + 1)) (od_set_count (od_set_boarding z (upd (od_boarding z) c (nI i))) (nI (c + 1))) else f_X3_gather_b7 pl n (rd_stops rd) (nI (i + 1)) z := by
      rw [f_X3_gather_b7, h.riders.1, if_neg (nI_ge hi (by omega)), if_pos (pu_inn (by omega) (by omega)), nI_clamp (by omega), nI_1]
      by_cases q : vOn pl i = vSt (rd_stops rd)
      · rw [if_pos ((on i hi).mpr q), if_pos q, a2, if_pos (pu_inn (by omega) (by omega)), nI_clamp (by omega), f_X3_gather_b48, nI_1]
        show f_X3_gather_b7 pl n (rd_stops rd) (nI (i + 1)) (od_set_count _ (od_count z + 1)) = _
        rw [a2, nI_1]
      · rw [if_neg (fun e => q ((on i hi).mp e)), if_neg q]
    have e2 : f_X12_comes_b7 w bu (n + 1) (nI i) (mo_set_comers mo (nI c)) y2 = if vOn pl i = vSt (rd_stops rd) then f_X12_comes_b7 w bu n (nI (i + 1)) (mo_set_comers mo (nI (c + 1))) (yComing_set_r y2 (upd (yComing_r y2) c (nI i))) else f_X12_comes_b7 w bu n (nI (i + 1)) (mo_set_comers mo (nI c)) y2 := by
      rw [f_X12_comes_b7, hB.riders, h.riders.1, if_neg (nI_ge hi (by omega)), if_pos (pu_inn (by omega) (by omega)), if_pos pu_i52, nI_clamp (by omega), pu_e52, hB.on i hi, hs.1, show mo_comers (mo_set_comers mo (nI c)) = nI c from rfl]
      by_cases q : vOn pl i = vSt (rd_stops rd)
      · rw [if_pos ((on i hi).mpr q), if_pos q, if_pos (pu_inn (by omega) (by omega)), nI_clamp (by omega), f_X12_comes_b50, f_X12_comes_b60, nI_1]
        show f_X12_comes_b7 w bu n (nI (i + 1)) (mo_set_comers mo (nI c + 1)) _ = _
        rw [nI_1]
      · rw [if_neg (fun e => q ((on i hi).mp e)), if_neg q, f_X12_comes_b60, nI_1]
    show (∃ (a' : OddsT) (c' : MOT × ComingT), f_X3_gather_b7 pl (n + 1) (rd_stops rd) (nI i) z = _ ∧ f_X12_comes_b7 w bu (n + 1) (nI i) (mo_set_comers mo (nI c)) y2 = _ ∧ _) ∨ _
    rw [e1, e2]
    by_cases q : vOn pl i = vSt (rd_stops rd)
    · rw [if_pos q, if_pos q]
      refine Or.inl ⟨od_set_count (od_set_boarding z (upd (od_boarding z) c (nI i))) (nI (c + 1)), (mo_set_comers mo (nI (c + 1)), yComing_set_r y2 (upd (yComing_r y2) c (nI i))), rfl, rfl, c + 1, fun j => if j = c then i else b j, by omega, rfl, ?_, rfl, ?_, ?_, ?_, ?_, ?_⟩
      · intro j hj
        show upd (od_boarding z) c (nI i) j = nI (if j = c then i else b j)
        by_cases e : j = c
        · subst e; rw [pu_upS, if_pos rfl]
        · rw [pu_upN _ _ e, if_neg e]; exact a3 j (by omega)
      · intro j hj
        show upd (yComing_r y2) c (nI i) j = nI (if j = c then i else b j)
        by_cases e : j = c
        · subst e; rw [pu_upS, if_pos rfl]
        · rw [pu_upN _ _ e, if_neg e]; exact a5 j (by omega)
      · intro j hj
        show (if j = c then i else b j) < i + 1
        by_cases e : j = c
        · rw [if_pos e]; omega
        · rw [if_neg e]; have := a6 j (by omega); omega
      · intro j hj
        show vOn pl (if j = c then i else b j) = _
        by_cases e : j = c
        · rw [if_pos e]; exact q
        · rw [if_neg e]; exact a7 j (by omega)
      · intro k j hk hj
        show (if k = c then i else b k) < (if j = c then i else b j)
        rw [if_neg (show ¬ k = c by omega)]
        by_cases e : j = c
        · rw [if_pos e]; exact a6 k (by omega)
        · rw [if_neg e]; exact a8 k j hk (by omega)
      · intro r hr er
        by_cases e : r = i
        · exact ⟨c, by omega, by show (if c = c then i else b c) = r; rw [if_pos rfl, e]⟩
        · obtain ⟨j, hj, ej⟩ := a9 r (by omega) er
          exact ⟨j, by omega, by show (if j = c then i else b j) = r; rw [if_neg (by omega), ej]⟩
    · rw [if_neg q, if_neg q]
      refine Or.inl ⟨z, (mo_set_comers mo (nI c), y2), rfl, rfl, c, b, by omega, a2, a3, rfl, a5, fun j hj => by have := a6 j hj; omega, a7, a8, ?_⟩
      intro r hr er
      by_cases e : r = i
      · exact absurd (e ▸ er) q
      · exact a9 r (by omega) er
  · rintro n z ⟨y1, y2⟩ ⟨c, b, a1, a2, a3, a4, a5, a6, a7, a8, a9⟩
    replace a4 : y1 = mo_set_comers mo (nI c) := a4
    subst a4
    refine ⟨c, b, z, y2, by omega, ?_, a2, a3, ?_, a5, a6, a7, a8, a9⟩
    · show f_X3_gather_b7 pl (n + 1) (rd_stops rd) (nI (vN pl)) z = _
      rw [f_X3_gather_b7, h.riders.1, if_pos (nI_le (Nat.le_refl _) (by omega)), a2]
    · show f_X12_comes_b7 w bu (n + 1) (nI (vN pl)) (mo_set_comers mo (nI c)) y2 = _
      rw [f_X12_comes_b7, hB.riders, h.riders.1, if_pos (nI_le (Nat.le_refl _) (by omega))]
/-- 27720 to the n -/
def pu_pw : Nat → Int64
  | 0 => 1
  | n + 1 => pu_pw n * (27720 : Int64)
theorem pu_all {m : Nat} (hm : m < 2 ^ 30) : ∀ k i fuel, i + k = m → k < fuel → f_X3_sharesOfAll_b4 fuel (nI m) (pu_pw i) (nI i) = some (pu_pw m) := by
  intro k
  induction k with
  | zero => intro i fuel h hf; cases fuel with
    | zero => omega
    | succ fuel =>
      have e : i = m := by omega
      subst e
      rw [f_X3_sharesOfAll_b4, if_pos (nI_le (Nat.le_refl _) (by omega))]
  | succ k ih => intro i fuel h hf; cases fuel with
    | zero => omega
    | succ fuel =>
      rw [f_X3_sharesOfAll_b4, if_neg (nI_ge (by omega) (by omega)), nI_1]
      exact ih (i + 1) fuel (by omega) (by omega)
theorem pu_sharesOfAll {m : Nat} (hm : m < 4096) : f_X3_sharesOfAll (nI m) = some (pu_pw m) := pu_all (by omega) m 0 4096 (by omega) (by omega)
theorem pu_waysL {m : Nat} (hm : m < 2 ^ 30) (mo : MOT) (em : mo_comers mo = nI m) (co : ComingT) : ∀ k i fuel, i + k = m → k < fuel → f_X12_ways_b62 w bu fuel (pu_pw i) (nI i) mo co = some (pu_pw m, mo_set_where (mo_set_trouble mo 0) (-1), co) := by
  intro k
  induction k with
  | zero => intro i fuel h hf; cases fuel with
    | zero => omega
    | succ fuel =>
      have e : i = m := by omega
      subst e
      rw [f_X12_ways_b62, em, if_pos (nI_le (Nat.le_refl _) (by omega))]
      rfl
  | succ k ih => intro i fuel h hf; cases fuel with
    | zero => omega
    | succ fuel =>
      rw [f_X12_ways_b62, em, if_neg (nI_ge (by omega) (by omega)), nI_1]
      exact ih (i + 1) fuel (by omega) (by omega)
/-- what a call may leave of the reference's object: comers too -/
def pu_mc (mo : MOT) (c t : Int32) : MOT := mo_set_where (mo_set_trouble (mo_set_comers (mo_set_thrown mo 0) c) t) (-1)
theorem pu_ways (h : pu_GP pl) (hB : pu_RB pl bu) (hR : pu_RR pl rd (yW_r w)) (hb : tp_hasBus tp = 1) (mo : MOT) (od : OddsT) (co : ComingT) :
    ∃ v t c od' co', ¬ t = (4 : Int32) ∧ f_X10_ways tp rd pl od = some (v, tp_set_latestTrouble tp t, od') ∧ f_X12_ways mo w co bu = some (v, pu_mc mo c t, co') := by
  have hs := hR.sto
  obtain ⟨c, b, od', co', hc, e1, e2, e3, e4, e5, e6⟩ := pu_comers h hB hR (mo_set_thrown mo 0) od co
  have e12 : (rd_stops rd < (12 : Int32)) ↔ vSt (rd_stops rd) < 12 := by
    conv => lhs; rw [hs.2.1]
    exact nI_ltI (a := vSt (rd_stops rd)) (b := 12) (by omega) (by omega)
  have e12' : (rd_stops rd = (12 : Int32)) ↔ vSt (rd_stops rd) = 12 := by
    conv => lhs; rw [hs.2.1]
    exact nI_eq (a := vSt (rd_stops rd)) (b := 12) (by omega) (by omega)
  have e4' : (nI c ≤ (4 : Int32)) ↔ c ≤ 4 := nI_leI (a := c) (b := 4) (by omega) (by omega)
  rw [f_X10_ways, hb, if_neg pu_10, f_X12_ways, f_X12_ways_b5, e4, pu_sb, f_X12_ways_b23]
  rw [show mo_comers (mo_set_comers (mo_set_thrown mo 0) (nI c)) = nI c from rfl, if_pos pu_i52, pu_e52, hs.1]
  by_cases q : vSt (rd_stops rd) < 12
  · rw [if_pos (e12.mpr q), e1, pu_sb, f_X10_ways_b53, if_neg (show ¬ rd_stops rd = (12 : Int32) from fun e => by rw [e12'] at e; omega)]
    by_cases q4 : c ≤ 4
    · rw [if_pos (e4'.mpr q4), if_pos (e4'.mpr q4), f_X10_ways_b70, pu_sharesOfAll (by omega), pu_sb]
      have := pu_waysL (w := w) (bu := bu) (m := c) (by omega) (mo_set_comers (mo_set_thrown mo 0) (nI c)) rfl co' c 0 4096 (by omega) (by omega)
      exact ⟨_, 0, nI c, od', co', by decide, rfl, this⟩
    · rw [if_neg (fun e => q4 (e4'.mp e)), if_neg (fun e => q4 (e4'.mp e))]
      exact ⟨_, 3, nI c, od', co', by decide, rfl, rfl⟩
  · have z : c = 0 := by
      rcases Nat.eq_zero_or_pos c with z | z
      · exact z
      · have a := e6.on 0 z
        have b := (h.on _ (e6.lt 0 z)).2
        omega
    rw [if_neg (fun e => q (e12.mp e)), if_pos (e4'.mpr (by omega)), if_pos (e12'.mpr (by omega))]
    exact ⟨_, 6, nI c, od, co', by decide, rfl, rfl⟩
end PC
