section PN2
variable {pl : PlanT} {bu : BusT} {rd : RideT} {w : WT} {tp : TopT}
/-- what a call leaves of the reference's numbers -/
def pu_MQ (mo mo2 : MOT) (t n k : Int32) : Prop := mo_trouble mo2 = t ∧ mo_where mo2 = -1 ∧ mo_films mo2 = n ∧ mo_marks mo2 = k ∧ mo_taped mo2 = mo_taped mo ∧ mo_fault mo2 = mo_fault mo
theorem pu_MQt (mo : MOT) (t : Int32) : pu_MQ mo (pu_mt mo t) t (mo_films mo) (mo_marks mo) := ⟨rfl, rfl, rfl, rfl, rfl, rfl⟩
/-- one more film -/
theorem pu_film (h : pu_GP pl) (hB : pu_RB pl bu) {fm : FilmsT} {mo : MOT} {ft : FTakenT} {fs : FSeatT} (hF : pu_RM pl fm mo (yFTaken_r ft) (yFSeat_r fs)) (hb : tp_hasBus tp = 1) (x y : Int32) :
    ∃ v t fm2 mo2 ft2 fs2, ¬ t = (4 : Int32) ∧ f_X10_film tp pl fm x y = some (v, tp_set_latestTrouble tp t, fm2) ∧ f_X12_film mo ft fs bu x y = some (v, mo2, ft2, fs2) ∧ pu_RM pl fm2 mo2 (yFTaken_r ft2) (yFSeat_r fs2) ∧ pu_MQ mo mo2 t (mo_films mo2) (mo_marks mo) := by
  obtain ⟨f, hf, ef⟩ := hF.cnt.2
  have em : mo_films mo = nI f := hF.cnt.1.symm.trans ef
  have keep : ∀ t : Int32, ¬ t = 4 → ∃ v t2 fm2 mo2 ft2 fs2, ¬ t2 = (4 : Int32) ∧ some ((-1 : Int32), tp_set_latestTrouble tp t, fm) = some (v, tp_set_latestTrouble tp t2, fm2) ∧ some ((-1 : Int32), pu_mt mo t, ft, fs) = some (v, mo2, ft2, fs2) ∧ pu_RM pl fm2 mo2 (yFTaken_r ft2) (yFSeat_r fs2) ∧ pu_MQ mo mo2 t2 (mo_films mo2) (mo_marks mo) := fun t ht => ⟨-1, t, fm, pu_mt mo t, ft, fs, ht, rfl, rfl, hF, pu_MQt mo t⟩
  rw [f_X10_film, f_X12_film, f_X12_film_b5]
  rcases pu_seatX h hB hb (mo_set_thrown mo 0) y with ⟨s, hs, rfl, hv, e1, e2⟩ | ⟨e1, e2⟩
  · rw [e1, e2, pu_sb, pu_sb, if_neg pu_10, if_neg pu_10, pu_allSeatsM h hB, pu_sb, ← h.seats, f_X10_film_b39, f_X12_film_b38]
    by_cases c1 : x &&& (cb_seats (pl_cab pl) ^^^ (-1 : Int32)) = 0
    · rw [if_pos c1, if_pos c1, pu_hb _ (by omega), pu_has _ (by omega), pu_sb, pu_sb, pu_ifb, pu_ifb]
      cases c2 : bt x s
      · rw [pu_ff, pu_ff, ef]
        have em' : mo_films (mo_set_thrown mo 0) = nI f := em
        rw [em']
        by_cases c3 : f < 12
        · have c3' : nI f < (12 : Int32) := (nI_lt (a := f) (b := 12) c3 (by omega) : nI f < nI 12)
          have c3n : ¬ nI f = (12 : Int32) := fun e => by
            rw [show (12 : Int32) = nI 12 from rfl, nI_eq (by omega) (by omega)] at e; omega
          have c3g : ¬ (12 : Int32) ≤ nI f := (nI_ge (a := f) (b := 12) c3 (by omega) : ¬ nI 12 ≤ nI f)
          have ec : ∀ g, fm_count (fm_set_taken fm g) = nI f := fun _ => ef
          have hC : f_X2_add fm x (nI s) = some (fm_set_count (fm_set_chosen (fm_set_taken fm (upd (fm_taken fm) f x)) (upd (fm_chosen fm) f (nI s))) (nI (f + 1))) := by
            rw [f_X2_add]
            simp only [ec, ef, if_neg c3g, if_pos (pu_inn (c := f) (N := 12) c3 (by omega)), nI_clamp (show f < 2 ^ 31 by omega), f_X2_add_b29]
            show some (fm_set_count (fm_set_chosen (fm_set_taken fm (upd (fm_taken fm) f x)) (upd (fm_chosen fm) f (nI s))) (fm_count fm + 1)) = _
            rw [ef, nI_1]
          rw [if_pos c3', hC, pu_sb, f_X10_film_b72, if_neg c3n, if_pos (pu_inn c3 (by omega)), f_X12_film_b69, em', if_pos (pu_inn c3 (by omega)), nI_clamp (by omega), f_X12_film_b79, f_X12_film_b89, em', nI_1]
          refine ⟨nI (f + 1), 0, _, _, _, _, by decide, rfl, rfl, ⟨⟨rfl, f + 1, by omega, rfl⟩, fun i g eg hg hi => ?_, fun i g eg hg hi => ?_⟩, rfl, rfl, rfl, rfl, rfl, rfl⟩
          · have eg : nI (f + 1) = nI g := eg
            rw [nI_eq (by omega) (by omega)] at eg
            show upd (fm_taken fm) f x i = upd (yFTaken_r ft) f x i
            by_cases e : i = f
            · subst e; rw [pk_us, pk_us]
            · rw [pk_un e, pk_un e]; exact hF.tak i f ef hf (by omega)
          · have eg : nI (f + 1) = nI g := eg
            rw [nI_eq (by omega) (by omega)] at eg
            show upd (fm_chosen fm) f (nI s) i = upd (yFSeat_r fs) f (nI s) i ∧ ∃ c, c < 20 ∧ upd (yFSeat_r fs) f (nI s) i = nI c
            by_cases e : i = f
            · subst e; rw [pk_us, pk_us]; exact ⟨rfl, s, hs, rfl⟩
            · rw [pk_un e, pk_un e]; exact hF.cho i f ef hf (by omega)
        · have c3' : f = 12 := by omega
          subst c3'
          rw [if_neg (by decide), if_pos (show nI 12 = 12 from rfl)]
          exact keep 3 (by decide)
      · rw [pu_tt, pu_tt]
        exact keep 2 (by decide)
    · rw [if_neg c1, if_neg c1]
      exact keep 2 (by decide)
  · rw [e1, e2, pu_sb, pu_sb, if_pos rfl, if_pos rfl]
    exact keep 1 (by decide)
end PN2
