theorem kb_inlt {i : Int32} {n : Nat} (h : kb_in? i n) : i.toNatClampNeg < n := Nat.lt_of_not_le (fun q => h (Or.inr q))
theorem kb_inX1 : ∀ w ∈ wsX10, w ∈ kb_gw := by decide +kernel
theorem kb_inX2 : ∀ w ∈ wsX20, w ∈ kb_gw := by decide +kernel
theorem kb_inX3 : ∀ w ∈ wsX30, w ∈ kb_gw := by decide +kernel
theorem kb_inX4 : ∀ w ∈ wsX40, w ∈ kb_gw := by decide +kernel
theorem kb_inX5 : ∀ w ∈ wsX50, w ∈ kb_gw := by decide +kernel
theorem kb_inX7 : ∀ w ∈ wsX70, w ∈ kb_gw := by decide +kernel
theorem kb_inX8 : ∀ w ∈ wsX80, w ∈ kb_gw := by decide +kernel
theorem kb_inX9 : ∀ w ∈ wsX90, w ∈ kb_gw := by decide +kernel
theorem kb_inX10 : ∀ w ∈ wsX100, w ∈ kb_gw := by decide +kernel
theorem kb_inX11 : ∀ w ∈ wsX110, w ∈ kb_gw := by decide +kernel
theorem kb_inX12 : ∀ w ∈ wsX120, w ∈ kb_gw := by decide +kernel
