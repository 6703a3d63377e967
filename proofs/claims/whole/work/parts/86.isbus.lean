/-! what was read is a bus -/
section QG
variable {pl : PlanT} {bu : BusT} {R N F H : Nat}
theorem pu_RDgp (hD : pu_RD pl bu R N F H) (hc : pl_hasCabin pl = 1) (r1 : 1 ≤ R) (n1 : 1 ≤ N) : pu_GP pl ∧ pu_RB pl bu := by
  obtain ⟨rc1, rc2, rc3⟩ := hD.rc
  obtain ⟨nc1, nc2, nc3⟩ := hD.nc
  obtain ⟨fc1, fc2, fc3⟩ := hD.fc
  obtain ⟨hc1, hc2, hc3⟩ := hD.hc
  have cb : pu_CB (pl_cab pl) bu := by
    rcases hD.cab with ⟨k, _⟩ | ⟨_, k⟩
    · rw [hc] at k; exact absurd k (by decide)
    · exact k
  have vr : vR pl = R := by unfold vR; rw [rc1]; exact nI_clamp (by omega)
  have vn : vN pl = N := by unfold vN; rw [nc1]; exact nI_clamp (by omega)
  obtain ⟨xr, xr1, xr2, xr3, xr4⟩ := cb.rows
  obtain ⟨xf, xf1, xf2, xf3⟩ := cb.form
  obtain ⟨xd, xd1, xd2, xd3⟩ := cb.door
  obtain ⟨xp, xp1, xp2, xp3, xp4⟩ := cb.pace
  obtain ⟨xi, xi1, xi2, xi3⟩ := cb.rise
  have cr : (cb_rows (pl_cab pl)).toNatClampNeg = xr := by rw [xr3]; exact nI_clamp (by omega)
  have cf : (cb_form (pl_cab pl)).toNatClampNeg = xf := by rw [xf2]; exact nI_clamp (by omega)
  have cd : (cb_door (pl_cab pl)).toNatClampNeg = xd := by rw [xd2]; exact nI_clamp (by omega)
  have cp : (cb_pace (pl_cab pl)).toNatClampNeg = xp := by rw [xp3]; exact nI_clamp (by omega)
  have ci : (cb_rise (pl_cab pl)).toNatClampNeg = xi := by rw [xi2]; exact nI_clamp (by omega)
  have vw : ∀ i, i < R → ∃ m, 1 ≤ m ∧ m ≤ 4 ∧ vWays pl i = m ∧ ru_count (pl_rules pl) i = nI m ∧ bu_waysMany bu i = nI m ∧ ∀ j, j < m → ∃ k, k < 9 ∧ ru_wanted (pl_rules pl) i j = nI k ∧ bu_way bu (4 * i + j) = nI k := by
    intro i hi
    obtain ⟨m, m1, m2, m3, m4, m5⟩ := hD.wy i hi
    exact ⟨m, m1, m2, by unfold vWays; rw [m3]; exact nI_clamp (by omega), m3, m4, m5⟩
  constructor
  · refine ⟨?_, ?_, ?_, ?_, ?_, ?_, ?_, ?_, ?_, ?_, ?_, ?_, ?_, ?_, ?_, ?_, ?_, ?_, ?_, ?_, ?_⟩
    · unfold vRows; rw [cr]; exact ⟨xr3, xr1, xr2⟩
    · unfold vForm; rw [cf]; exact ⟨xf2, xf1⟩
    · unfold vDoor vRows; rw [cd, cr]; rw [cr] at xd1; exact ⟨xd2, xd1⟩
    · unfold vPace; rw [cp]; exact ⟨xp3, xp1, xp2⟩
    · unfold vRise; rw [ci]; exact ⟨xi2, xi1⟩
    · rcases cb.sun with k | k | k
      · exact Or.inl k.1
      · exact Or.inr (Or.inl k.1)
      · exact Or.inr (Or.inr k.1)
    · exact cb.seats
    · exact cb.bes
    · rw [vr]; exact ⟨rc1, r1, rc3⟩
    · intro i hi
      rw [vr] at hi
      obtain ⟨m, m1, m2, m3, m4, _⟩ := vw i hi
      rw [m3]; exact ⟨m4, m1, m2⟩
    · intro i hi j hj
      rw [vr] at hi
      obtain ⟨m, m1, m2, m3, m4, m5, m6⟩ := vw i hi
      rw [m3] at hj
      obtain ⟨k, k1, k2, _⟩ := m6 j hj
      exact ⟨k, k1, k2⟩
    · rw [vn]; exact ⟨nc1, n1, nc3⟩
    · intro r hr
      rw [vn] at hr
      obtain ⟨a, b, a1, a2, a3, a4, a5, a6, a7⟩ := (hD.rd r hr).on
      unfold vOn; rw [a4, nI_clamp (by omega)]; exact ⟨rfl, a1⟩
    · intro r hr
      rw [vn] at hr
      obtain ⟨a, b, a1, a2, a3, a4, a5, a6, a7⟩ := (hD.rd r hr).on
      unfold vOn vOff; rw [a4, a6, nI_clamp (show a < 2 ^ 31 by omega), nI_clamp (show b < 2 ^ 31 by omega)]; exact ⟨rfl, a2, a3⟩
    · intro r hr
      rw [vn] at hr
      obtain ⟨i, i1, i2, i3⟩ := (hD.rd r hr).rule
      unfold vRule; rw [vr, i2, nI_clamp (by omega)]; exact ⟨rfl, i1⟩
    · intro r hr
      rw [vn] at hr
      obtain ⟨i, i1, i2, i3⟩ := (hD.rd r hr).looks
      exact ⟨i, i1, i2⟩
    · intro r hr
      rw [vn] at hr
      obtain ⟨i, i1, i2, i3⟩ := (hD.rd r hr).age
      unfold vAge; rw [i2, nI_clamp (by omega)]; exact ⟨rfl, i1⟩
    · intro r hr
      rw [vn] at hr
      exact (hD.rd r hr).bag.1
    · intro r hr
      rw [vn] at hr
      exact (hD.rd r hr).pro.1
    · intro r hr
      rw [vn] at hr
      rcases (hD.rd r hr).held with k | ⟨x, x1, x2, _⟩
      · exact Or.inl k.1
      · exact Or.inr ⟨x, x1, x2⟩
    · intro r hr q hq
      rw [vn] at hr ⊢
      exact hD.fb r hr q hq
  · refine ⟨?_, ?_, ?_, ?_, ?_, ?_, ?_, ?_, ?_, ?_, ?_, ?_, ?_, ?_, ?_, ?_, ?_, ?_, ?_, ?_, ?_⟩
    · rw [xr4, xr3]
    · rw [xf3, xf2]
    · rw [xd3, xd2]
    · rw [xp4, xp3]
    · rw [xi3, xi2]
    · rcases cb.sun with k | k | k
      · exact Or.inr ⟨by rw [k.1]; decide, by rw [k.1, k.2]⟩
      · exact Or.inr ⟨by rw [k.1]; decide, by rw [k.1, k.2]⟩
      · exact Or.inl k
    · rw [rc1, rc2]
    · intro i hi
      rw [vr] at hi
      obtain ⟨m, _, _, _, m4, m5, _⟩ := vw i hi
      rw [m4, m5]
    · intro i hi j hj
      rw [vr] at hi
      obtain ⟨m, m1, m2, m3, m4, m5, m6⟩ := vw i hi
      rw [m3] at hj
      obtain ⟨k, k1, k2, k3⟩ := m6 j hj
      rw [k2, k3]
    · rw [nc1, nc2]
    · intro r hr
      rw [vn] at hr
      obtain ⟨a, b, a1, a2, a3, a4, a5, a6, a7⟩ := (hD.rd r hr).on
      rw [a4, a5]
    · intro r hr
      rw [vn] at hr
      obtain ⟨a, b, a1, a2, a3, a4, a5, a6, a7⟩ := (hD.rd r hr).on
      rw [a6, a7]
    · intro r hr
      rw [vn] at hr
      obtain ⟨i, i1, i2, i3⟩ := (hD.rd r hr).rule
      rw [i2, i3]
    · intro r hr
      rw [vn] at hr
      obtain ⟨i, i1, i2, i3⟩ := (hD.rd r hr).looks
      rw [i2, i3]
    · intro r hr
      rw [vn] at hr
      obtain ⟨i, i1, i2, i3⟩ := (hD.rd r hr).age
      rw [i2, i3]
    · intro r hr
      rw [vn] at hr
      exact (hD.rd r hr).bag.2
    · intro r hr
      rw [vn] at hr
      exact (hD.rd r hr).pro.2
    · intro r hr
      rw [vn] at hr
      rcases (hD.rd r hr).held with k | ⟨x, x1, x2, x3⟩
      · exact Or.inl k
      · exact Or.inr ⟨by rw [x2]; exact pu_ne2 (by omega), by rw [x2, x3]⟩
    · intro r hr q hq
      rw [vn] at hr hq
      have ff := hD.ff r hr q hq
      rcases pu_areF fc3 fc2 (nI r) (nI q) with ⟨a, b⟩ | ⟨a, b⟩
      · rw [a, ff.mpr b]; rfl
      · have : bt (qr_friends (pl_riders pl) r) q = false := by
          cases hb : bt (qr_friends (pl_riders pl) r) q
          · rfl
          · obtain ⟨k, k1, k2⟩ := ff.mp hb
            exact absurd k2 (b k k1)
        rw [a, this]; rfl
    · rw [fc1, fc2]
    · rw [hc1, hc2]
end QG
