theorem kb_sw (lo hi : Int) {x : Int32} (h : ∀ k : Int, lo ≤ k → k ≤ hi → ¬ x = Int32.ofInt k) : x.toInt < lo ∨ hi < x.toInt := by
  by_cases a : x.toInt < lo
  · exact Or.inl a
  · by_cases b : hi < x.toInt
    · exact Or.inr b
    · exact absurd (Int32.ofInt_toInt x).symm (h x.toInt (by omega) (by omega))
