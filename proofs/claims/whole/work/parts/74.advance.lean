/-! the next token, of both -/
section PU
variable {c : Nat → Nat} {n : Nat} {tape : TapeT}
theorem pu_sigP (z : ParserT) (k d : Int32) : pu_FP z (ps_set_next (ps_set_kind z k) d) ∧ ps_kind (ps_set_next (ps_set_kind z k) d) = k ∧ ps_next (ps_set_next (ps_set_kind z k) d) = d ∧ ps_start (ps_set_next (ps_set_kind z k) d) = ps_start z := ⟨⟨rfl, rfl, rfl, rfl, rfl⟩, rfl, rfl, rfl⟩
theorem pu_sigM (y : MOT) (a b d : Int32) : pu_FO y (mo_set_spot (mo_set_sign (mo_set_sort y a) b) d) ∧ mo_sort (mo_set_spot (mo_set_sign (mo_set_sort y a) b) d) = a ∧ mo_sign (mo_set_spot (mo_set_sign (mo_set_sort y a) b) d) = b ∧ mo_spot (mo_set_spot (mo_set_sign (mo_set_sort y a) b) d) = d ∧ mo_place (mo_set_spot (mo_set_sign (mo_set_sort y a) b) d) = mo_place y := ⟨⟨rfl, rfl, rfl, rfl, rfl, rfl, rfl, rfl, rfl, rfl⟩, rfl, rfl, rfl, rfl⟩
theorem pu_e133 (k : Int32) (z : ParserT) : f_X4_advance_b133 k z = some (ps_set_next (ps_set_kind z k) (ps_next z + 1)) := rfl
theorem pu_e261 (v : Int32) (y : MOT) : f_X12_goesOn_b261 tape v y = some (mo_set_spot (mo_set_sign (mo_set_sort y 4) v) (mo_spot y + 1)) := rfl
theorem pu_y0 (mo : MOT) (p a b : Int32) : mo_spot (mo_set_sign (mo_set_sort (mo_set_place mo p) a) b) = mo_spot mo ∧ mo_place (mo_set_sign (mo_set_sort (mo_set_place mo p) a) b) = p ∧ mo_sort (mo_set_sign (mo_set_sort (mo_set_place mo p) a) b) = a ∧ pu_FO mo (mo_set_sign (mo_set_sort (mo_set_place mo p) a) b) := ⟨rfl, rfl, rfl, ⟨rfl, rfl, rfl, rfl, rfl, rfl, rfl, rfl, rfl, rfl⟩⟩
theorem pu_z0 (ps : ParserT) (p : Int32) : ps_next (ps_set_start ps p) = ps_next ps ∧ ps_start (ps_set_start ps p) = p ∧ pu_FP ps (ps_set_start ps p) := ⟨rfl, rfl, ⟨rfl, rfl, rfl, rfl, rfl⟩⟩
theorem pu_FPk (ps : ParserT) (k : Int32) : pu_FP ps (ps_set_kind ps k) ∧ ps_kind (ps_set_kind ps k) = k ∧ ps_next (ps_set_kind ps k) = ps_next ps ∧ ps_start (ps_set_kind ps k) = ps_start ps := ⟨⟨rfl, rfl, rfl, rfl, rfl⟩, rfl, rfl, rfl⟩
theorem pu_FOk (mo : MOT) (k : Int32) : pu_FO mo (mo_set_sort mo k) ∧ mo_sort (mo_set_sort mo k) = k ∧ mo_place (mo_set_sort mo k) = mo_place mo := ⟨⟨rfl, rfl, rfl, rfl, rfl, rfl, rfl, rfl, rfl, rfl⟩, rfl, rfl⟩
theorem pu_FPw (ps : ParserT) (a : Int64) : pu_FP ps (ps_set_word ps a) ∧ ps_word (ps_set_word ps a) = a ∧ ps_next (ps_set_word ps a) = ps_next ps ∧ ps_start (ps_set_word ps a) = ps_start ps := ⟨⟨rfl, rfl, rfl, rfl, rfl⟩, rfl, rfl, rfl⟩
theorem pu_FPv (ps : ParserT) (a : Int32) : pu_FP ps (ps_set_value ps a) ∧ ps_value (ps_set_value ps a) = a ∧ ps_next (ps_set_value ps a) = ps_next ps ∧ ps_start (ps_set_value ps a) = ps_start ps := ⟨⟨rfl, rfl, rfl, rfl, rfl⟩, rfl, rfl, rfl⟩
theorem pu_FOw (mo : MOT) (a : Int64) : pu_FO mo (mo_set_word mo a) ∧ mo_word (mo_set_word mo a) = a ∧ mo_spot (mo_set_word mo a) = mo_spot mo ∧ mo_place (mo_set_word mo a) = mo_place mo ∧ mo_sort (mo_set_word mo a) = mo_sort mo := ⟨⟨rfl, rfl, rfl, rfl, rfl, rfl, rfl, rfl, rfl, rfl⟩, rfl, rfl, rfl, rfl⟩
theorem pu_FOn (mo : MOT) (a : Int32) : pu_FO mo (mo_set_number mo a) ∧ mo_number (mo_set_number mo a) = a ∧ mo_spot (mo_set_number mo a) = mo_spot mo ∧ mo_place (mo_set_number mo a) = mo_place mo ∧ mo_sort (mo_set_number mo a) = mo_sort mo := ⟨⟨rfl, rfl, rfl, rfl, rfl, rfl, rfl, rfl, rfl, rfl⟩, rfl, rfl, rfl, rfl⟩
theorem pu_FPn (ps : ParserT) (b : Int32) : pu_FP ps (ps_set_next ps b) ∧ ps_next (ps_set_next ps b) = b := ⟨⟨rfl, rfl, rfl, rfl, rfl⟩, rfl⟩
theorem pu_skip : ∀ (m p : Nat) (ps : ParserT) (mo : MOT) (f1 f2 : Nat), pu_TX c n ps tape mo → p + m = n → m < f1 → m < f2 → ps_next ps = nI p → mo_spot mo = nI p →
    ∃ q ps1 mo1, p ≤ q ∧ q ≤ n ∧ (q < n → ¬ c q = 32) ∧ f_X4_advance_b0 f1 ps = f_X4_advance_b38 ps1 ∧ f_X12_goesOn_b9 tape f2 mo = f_X12_goesOn_b43 tape (mo_set_place mo1 (mo_spot mo1)) ∧ ps_next ps1 = nI q ∧ mo_spot mo1 = nI q ∧ pu_FP ps ps1 ∧ pu_FO mo mo1 := by
  intro m
  induction m with
  | zero =>
    intro p ps mo f1 f2 t hm h1 h2 a1 a2
    have h9 := t.n9
    cases f1 with
    | zero => omega
    | succ f1 => cases f2 with
      | zero => omega
      | succ f2 =>
        refine ⟨p, ps, mo, Nat.le_refl _, by omega, fun h => by omega, ?_, ?_, a1, a2, pu_FP.rf _, pu_FO.rf _⟩
        · rw [f_X4_advance_b0, t.en, a1, if_pos (nI_le (by omega) (by omega))]
        · rw [f_X12_goesOn_b9, a2, pu_byteAt t (by omega), pu_sb, if_neg (show ¬ p < n by omega), if_neg (show ¬ (-1 : Int32) = 32 by decide)]
  | succ m ih =>
    intro p ps mo f1 f2 t hm h1 h2 a1 a2
    have h9 := t.n9
    cases f1 with
    | zero => omega
    | succ f1 => cases f2 with
      | zero => omega
      | succ f2 =>
        have hlt : p < n := by omega
        obtain ⟨x1, x2, x3⟩ := t.tx p hlt
        have eC : f_X4_advance_b0 (f1 + 1) ps = (if c p = 32 then f_X4_advance_b0 f1 (ps_set_next ps (ps_next ps + 1)) else f_X4_advance_b38 ps) := by
          rw [f_X4_advance_b0, t.en]
          simp only [a1, nI_clamp (show p < 2 ^ 31 by omega), if_pos (pu_inn (c := p) (N := 900) (by omega) (by omega)), x2, if_neg (nI_ge hlt (by omega)), pu_b32 _ x1]
        have eM : f_X12_goesOn_b9 tape (f2 + 1) mo = (if c p = 32 then f_X12_goesOn_b9 tape f2 (mo_set_spot mo (mo_spot mo + 1)) else f_X12_goesOn_b43 tape (mo_set_place mo (mo_spot mo))) := by
          rw [f_X12_goesOn_b9, a2, pu_byteAt t (by omega), pu_sb, if_pos hlt]
          have e32 : (nI (c p) = (32 : Int32)) ↔ c p = 32 := nI_eq (a := c p) (b := 32) (by omega) (by omega)
          simp only [e32, f_X12_goesOn_b32, a2]
        rw [eC, eM]
        by_cases q : c p = 32
        · rw [if_pos q, if_pos q]
          obtain ⟨r, ps1, mo1, b1, b2, b3, b4, b5, b6, b7, b8, b9⟩ := ih (p + 1) (ps_set_next ps (ps_next ps + 1)) (mo_set_spot mo (mo_spot mo + 1)) f1 f2 (t.fr (pu_FPn ps _).1 (pu_FOs mo _)) (by omega) (by omega) (by omega) (by show ps_next ps + 1 = _; rw [a1, nI_1]) (by show mo_spot mo + 1 = _; rw [a2, nI_1])
          exact ⟨r, ps1, mo1, by omega, b2, b3, b4, b5, b6, b7, pu_FP.tr (pu_FPn ps _).1 b8, pu_FO.trr (pu_FOs mo _) b9⟩
        · rw [if_neg q, if_neg q]
          exact ⟨p, ps, mo, Nat.le_refl _, by omega, fun _ => q, rfl, rfl, a1, a2, pu_FP.rf _, pu_FO.rf _⟩
/-- the token at q, no space -/
theorem pu_tok {ps : ParserT} {mo : MOT} (t : pu_TX c n ps tape mo) {q : Nat} (hq : q ≤ n) (a1 : ps_next ps = nI q) (a2 : mo_spot mo = nI q) :
    ∃ e q' mq, f_X4_advance_b38 ps = some q' ∧ f_X12_goesOn_b43 tape (mo_set_place mo (mo_spot mo)) = some mq ∧ pu_FP ps q' ∧ pu_FO mo mq ∧ pu_PK c n q e q' mq := by
  have h9 := t.n9
  have zz := pu_z0 ps (ps_next ps)
  have eC0 : ∀ (ps : ParserT), f_X4_advance_b38 ps = (if (ps_next (ps_set_start ps (ps_next ps))) < (ps_end (ps_set_start ps (ps_next ps))) then if kb_in? (ps_next (ps_set_start ps (ps_next ps))) 900 then (if ((ps_text (ps_set_start ps (ps_next ps))) (ps_next (ps_set_start ps (ps_next ps))).toNatClampNeg) < (97 : Int32) then f_X4_advance_b92 ((ps_text (ps_set_start ps (ps_next ps))) (ps_next (ps_set_start ps (ps_next ps))).toNatClampNeg) (ps_set_start ps (ps_next ps)) else (if (122 : Int32) < ((ps_text (ps_set_start ps (ps_next ps))) (ps_next (ps_set_start ps (ps_next ps))).toNatClampNeg) then f_X4_advance_b92 ((ps_text (ps_set_start ps (ps_next ps))) (ps_next (ps_set_start ps (ps_next ps))).toNatClampNeg) (ps_set_start ps (ps_next ps)) else (f_X4_takeWord (ps_set_start ps (ps_next ps))).bind fun r11 => some (r11))) else none else some (ps_set_kind (ps_set_start ps (ps_next ps)) 0)) := fun ps => by rw [f_X4_advance_b38]
  have eC := eC0 ps
  generalize ps_set_start ps (ps_next ps) = z at zz eC
  obtain ⟨z1, z2, zf⟩ := zz
  rw [a1] at z1 z2
  have yy := pu_y0 mo (mo_spot mo) 0 0
  have eM0 : ∀ (m : MOT), f_X12_goesOn_b43 tape m = f_X12_goesOn_b53 tape (mo_set_sign (mo_set_sort m 0) 0) := fun m => by rw [f_X12_goesOn_b43, f_X12_goesOn_b48]
  have eM := eM0 (mo_set_place mo (mo_spot mo))
  generalize mo_set_sign (mo_set_sort (mo_set_place mo (mo_spot mo)) 0) 0 = y at yy eM
  obtain ⟨y1, y2, y3, yf⟩ := yy
  rw [a2] at y1 y2
  have tz : pu_TX c n z tape y := t.fr zf yf
  rw [eC, eM, tz.en, f_X12_goesOn_b53, y1, pu_byteAt tz hq, pu_sb]
  by_cases hlt : q < n
  rotate_left
  · rw [z1, if_neg (nI_nlt (by omega) (by omega)), if_neg hlt, if_pos rfl, f_X12_goesOn_b74, f_X12_goesOn_b281]
    have zk := pu_FPk z 0
    have yk := pu_FOk y 1
    generalize ps_set_kind z 0 = z' at zk
    generalize mo_set_sort y 1 = y' at yk
    exact ⟨q, z', y', rfl, rfl, pu_FP.tr zf zk.1, pu_FO.trr yf yk.1, Nat.le_refl _, hq, zk.2.2.2.trans z2, yk.2.2.trans y2, zk.2.2.1.trans z1, Or.inl ⟨zk.2.1, yk.2.1⟩⟩
  obtain ⟨x1, x2, x3⟩ := tz.tx q hlt
  rw [z1, if_pos (nI_lt hlt (by omega)), if_pos (pu_inn (show q < 900 by omega) (by omega)), nI_clamp (by omega), x2, if_pos hlt, if_neg (pu_ne1 (by omega)), pu_isL _ x1, pu_sb, pu_isD _ x1, pu_sb, pu_ifb, pu_ifb]
  by_cases ql : 97 ≤ c q ∧ c q ≤ 122
  · rw [if_neg (fun k => (pu_b97 _ x1).mp k ⟨ql.1, by omega⟩), if_neg (fun k => by have := (pu_b122 _ x1).mp k; omega), if_pos (decide_eq_true ql), f_X4_takeWord]
    have zk := pu_FPw z 0
    have yk := pu_FOw y 0
    generalize ps_set_word z 0 = z' at zk ⊢
    generalize mo_set_word y 0 = y' at yk ⊢
    obtain ⟨e, q', mq, b1, b2, b3, b4, b5, _⟩ := pu_word (s := q) (n - q) 0 z' y' 4096 4096 (tz.fr zk.1 yk.1) (by omega) (by omega) (by omega) (zk.2.2.2.trans z2) (yk.2.2.2.1.trans y2) (zk.2.2.1.trans z1) (yk.2.2.1.trans y1) (yk.2.2.2.2.trans y3) (fun j hj => by omega) (fun _ => ⟨zk.2.1, yk.2.1⟩) (fun _ => ⟨hlt, ql⟩)
    refine ⟨e, q', mq, ?_, b2, pu_FP.tr zf (pu_FP.tr zk.1 b3), pu_FO.trr yf (pu_FO.trr yk.1 b4), b5⟩
    rw [b1, pu_sb]
  rw [if_neg (show ¬ decide (97 ≤ c q ∧ c q ≤ 122) = true from fun k => ql (of_decide_eq_true k))]
  have e92 : ∀ (X : Option ParserT), (if pu_sg8 (c q) < (97 : Int32) then f_X4_advance_b92 (pu_sg8 (c q)) z else (if (122 : Int32) < pu_sg8 (c q) then f_X4_advance_b92 (pu_sg8 (c q)) z else X)) = f_X4_advance_b92 (pu_sg8 (c q)) z := by
    intro X
    by_cases q2 : 97 ≤ c q ∧ c q < 128
    · rw [if_neg (fun k => (pu_b97 _ x1).mp k q2), if_pos ((pu_b122 _ x1).mpr (by omega))]
    · rw [if_pos ((pu_b97 _ x1).mpr q2)]
  rw [e92, f_X4_advance_b92]
  by_cases qd : 48 ≤ c q ∧ c q ≤ 57
  · rw [if_neg (fun k => (pu_b48 _ x1).mp k ⟨qd.1, by omega⟩), if_neg (fun k => by have := (pu_b57 _ x1).mp k; omega), if_pos (decide_eq_true qd), f_X4_takeWhole]
    have zk := pu_FPv z 0
    have yk := pu_FOn y 0
    generalize ps_set_value z 0 = z' at zk ⊢
    generalize mo_set_number y 0 = y' at yk ⊢
    obtain ⟨e, q', mq, b1, b2, b3, b4, b5, _⟩ := pu_whole (s := q) (n - q) 0 z' y' 4096 4096 (tz.fr zk.1 yk.1) (by omega) (by omega) (by omega) (zk.2.2.2.trans z2) (yk.2.2.2.1.trans y2) (zk.2.2.1.trans z1) (yk.2.2.1.trans y1) (yk.2.2.2.2.trans y3) (fun j hj => by omega) (fun _ => ⟨zk.2.1, yk.2.1⟩) (fun _ => ⟨hlt, qd⟩)
    refine ⟨e, q', mq, ?_, b2, pu_FP.tr zf (pu_FP.tr zk.1 b3), pu_FO.trr yf (pu_FO.trr yk.1 b4), b5⟩
    rw [b1, pu_sb]
  rw [if_neg (show ¬ decide (48 ≤ c q ∧ c q ≤ 57) = true from fun k => qd (of_decide_eq_true k))]
  have e111 : ∀ (X : Option ParserT), (if pu_sg8 (c q) < (48 : Int32) then f_X4_advance_b111 (pu_sg8 (c q)) z else (if (57 : Int32) < pu_sg8 (c q) then f_X4_advance_b111 (pu_sg8 (c q)) z else X)) = f_X4_advance_b111 (pu_sg8 (c q)) z := by
    intro X
    by_cases q2 : 48 ≤ c q ∧ c q < 128
    · rw [if_neg (fun k => (pu_b48 _ x1).mp k q2), if_pos ((pu_b57 _ x1).mpr (by omega))]
    · rw [if_pos ((pu_b48 _ x1).mpr q2)]
  rw [e111, f_X4_advance_b111]
  have m59 : (nI (c q) = (59 : Int32)) ↔ c q = 59 := nI_eq (a := c q) (b := 59) (by omega) (by omega)
  have m44 : (nI (c q) = (44 : Int32)) ↔ c q = 44 := nI_eq (a := c q) (b := 44) (by omega) (by omega)
  rw [pu_e133, pu_e133, pu_e133, pu_e261, z1, y1, nI_1, f_X12_goesOn_b281]
  by_cases q59 : c q = 59
  · rw [if_pos ((pu_b59 _ x1).mpr q59), if_pos (m59.mpr q59)]
    have zk := pu_sigP z 3 (nI (q + 1))
    have yk := pu_sigM y 4 (nI (c q)) (nI (q + 1))
    generalize ps_set_next (ps_set_kind z 3) (nI (q + 1)) = z' at zk ⊢
    generalize mo_set_spot (mo_set_sign (mo_set_sort y 4) (nI (c q))) (nI (q + 1)) = y' at yk ⊢
    exact ⟨q + 1, z', y', rfl, rfl, pu_FP.tr zf zk.1, pu_FO.trr yf yk.1, by omega, by omega, zk.2.2.2.trans z2, yk.2.2.2.2.trans y2, zk.2.2.1, Or.inr (Or.inr (Or.inr (Or.inl ⟨zk.2.1, yk.2.1, yk.2.2.1.trans (m59.mpr q59), yk.2.2.2.1, by omega⟩)))⟩
  rw [if_neg (fun k => q59 ((pu_b59 _ x1).mp k)), if_neg (fun k => q59 (m59.mp k))]
  by_cases q44 : c q = 44
  · rw [if_pos ((pu_b44 _ x1).mpr q44), if_pos (m44.mpr q44)]
    have zk := pu_sigP z 4 (nI (q + 1))
    have yk := pu_sigM y 4 (nI (c q)) (nI (q + 1))
    generalize ps_set_next (ps_set_kind z 4) (nI (q + 1)) = z' at zk ⊢
    generalize mo_set_spot (mo_set_sign (mo_set_sort y 4) (nI (c q))) (nI (q + 1)) = y' at yk ⊢
    exact ⟨q + 1, z', y', rfl, rfl, pu_FP.tr zf zk.1, pu_FO.trr yf yk.1, by omega, by omega, zk.2.2.2.trans z2, yk.2.2.2.2.trans y2, zk.2.2.1, Or.inr (Or.inr (Or.inr (Or.inr (Or.inl ⟨zk.2.1, yk.2.1, yk.2.2.1.trans (m44.mpr q44), yk.2.2.2.1, by omega⟩))))⟩
  rw [if_neg (fun k => q44 ((pu_b44 _ x1).mp k)), if_neg (fun k => q44 (m44.mp k))]
  have zk := pu_sigP z 5 (nI (q + 1))
  generalize ps_set_next (ps_set_kind z 5) (nI (q + 1)) = z' at zk ⊢
  exact ⟨q + 1, z', y, rfl, rfl, pu_FP.tr zf zk.1, yf, by omega, by omega, zk.2.2.2.trans z2, y2, zk.2.2.1, Or.inr (Or.inr (Or.inr (Or.inr (Or.inr ⟨zk.2.1, y3⟩))))⟩
/-- one token on -/
theorem pu_adv0 {ps : ParserT} {mo : MOT} (t : pu_TX c n ps tape mo) {p : Nat} (hp : p ≤ n) (a1 : ps_next ps = nI p) (a2 : mo_spot mo = nI p) (a3 : ¬ mo_sort mo = 5) :
    ∃ s e q mq, f_X4_advance ps = some q ∧ f_X12_goesOn mo tape = some mq ∧ pu_FP ps q ∧ pu_FO mo mq ∧ pu_PK c n s e q mq ∧ p ≤ s := by
  have h9 := t.n9
  obtain ⟨q, ps1, mo1, b1, b2, b3, b4, b5, b6, b7, b8, b9⟩ := pu_skip (n - p) p ps mo 4096 4096 t (by omega) (by omega) (by omega) a1 a2
  obtain ⟨e, q', mq, d1, d2, d3, d4, d5⟩ := pu_tok (t.fr b8 b9) b2 b6 b7
  refine ⟨q, e, q', mq, ?_, ?_, pu_FP.tr b8 d3, pu_FO.trr b9 d4, d5, b1⟩
  · rw [f_X4_advance, b4]; exact d1
  · rw [f_X12_goesOn, if_neg a3, b5]; exact d2
theorem pu_PK.sort5 {s e : Nat} {ps : ParserT} {mo : MOT} (h : pu_PK c n s e ps mo) : ¬ mo_sort mo = 5 := by
  obtain ⟨_, _, _, _, _, h⟩ := h
  rcases h with h | h | h | h | h | h
  · rw [h.2]; decide
  · rw [h.2.1]; decide
  · rw [h.2.1]; decide
  · rw [h.2.1]; decide
  · rw [h.2.1]; decide
  · rw [h.2]; decide
/-- one token on from a token that is neither the end nor bad -/
theorem pu_adv {s e : Nat} {ps : ParserT} {mo : MOT} (t : pu_TX c n ps tape mo) (h : pu_PK c n s e ps mo) (h0 : ¬ ps_kind ps = 0) (h5 : ¬ ps_kind ps = 5) :
    ∃ s' e' q mq, f_X4_advance ps = some q ∧ f_X12_goesOn mo tape = some mq ∧ pu_FP ps q ∧ pu_FO mo mq ∧ pu_PK c n s' e' q mq ∧ s < s' := by
  have hs := h.sort5
  obtain ⟨k1, k2, k3, k4, k5, k⟩ := h
  have key : mo_spot mo = nI e ∧ s < e := by
    rcases k with k | k | k | k | k | k
    · exact absurd k.1 h0
    · exact ⟨k.2.2.1, k.2.2.2.1⟩
    · exact ⟨k.2.2.1, k.2.2.2.1⟩
    · exact ⟨k.2.2.2.1, k.2.2.2.2⟩
    · exact ⟨k.2.2.2.1, k.2.2.2.2⟩
    · exact absurd k.1 h5
  obtain ⟨s', e', q, mq, b1, b2, b3, b4, b5, b6⟩ := pu_adv0 t k2 k5 key.1 hs
  exact ⟨s', e', q, mq, b1, b2, b3, b4, b5, by omega⟩
end PU
