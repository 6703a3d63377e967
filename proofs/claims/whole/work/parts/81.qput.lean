/-! a rider's fields, one by one -/
section QB
variable {tape : TapeT}
def pu_PQ (a : PlanT) (b : PlanT) : Prop := (pu_PFq a b) ∧ (pl_riderCount b = pl_riderCount a)
theorem pu_PQ.fr {a : PlanT} {b : PlanT} (h : pu_PQ a b) : pu_PFq a b := h.1
theorem pu_PQ.rc {a : PlanT} {b : PlanT} (h : pu_PQ a b) : pl_riderCount b = pl_riderCount a := h.2
theorem pu_PQ.trans {a b d : PlanT} (h : pu_PQ a b) (k : pu_PQ b d) : pu_PQ a d := ⟨h.fr.trans k.fr, k.rc.trans h.rc⟩
theorem pu_PQ1 (pl : PlanT) (x : RidersT) : pu_PQ pl (pl_set_riders pl x) ∧ pl_riders (pl_set_riders pl x) = x := ⟨⟨⟨rfl, rfl, rfl, rfl, rfl, rfl⟩, rfl⟩, rfl⟩
def pu_UQ (N : Nat) (a : RidersT) (b : RidersT) : Prop := (∀ i, ¬ i = N → qr_name b i = qr_name a i) ∧ (∀ i, ¬ i = N → qr_on b i = qr_on a i) ∧ (∀ i, ¬ i = N → qr_off b i = qr_off a i) ∧ (∀ i, ¬ i = N → qr_rule b i = qr_rule a i) ∧ (∀ i, ¬ i = N → qr_looks b i = qr_looks a i) ∧ (∀ i, ¬ i = N → qr_age b i = qr_age a i) ∧ (∀ i, ¬ i = N → qr_hasBag b i = qr_hasBag a i) ∧ (∀ i, ¬ i = N → qr_isProud b i = qr_isProud a i) ∧ (∀ i, ¬ i = N → qr_held b i = qr_held a i) ∧ (∀ i, ¬ i = N → qr_friends b i = qr_friends a i)
theorem pu_UQ.uname {N : Nat} {a : RidersT} {b : RidersT} (h : pu_UQ N a b) : ∀ i, ¬ i = N → qr_name b i = qr_name a i := h.1
theorem pu_UQ.uon {N : Nat} {a : RidersT} {b : RidersT} (h : pu_UQ N a b) : ∀ i, ¬ i = N → qr_on b i = qr_on a i := h.2.1
theorem pu_UQ.uoff {N : Nat} {a : RidersT} {b : RidersT} (h : pu_UQ N a b) : ∀ i, ¬ i = N → qr_off b i = qr_off a i := h.2.2.1
theorem pu_UQ.urule {N : Nat} {a : RidersT} {b : RidersT} (h : pu_UQ N a b) : ∀ i, ¬ i = N → qr_rule b i = qr_rule a i := h.2.2.2.1
theorem pu_UQ.ulooks {N : Nat} {a : RidersT} {b : RidersT} (h : pu_UQ N a b) : ∀ i, ¬ i = N → qr_looks b i = qr_looks a i := h.2.2.2.2.1
theorem pu_UQ.uage {N : Nat} {a : RidersT} {b : RidersT} (h : pu_UQ N a b) : ∀ i, ¬ i = N → qr_age b i = qr_age a i := h.2.2.2.2.2.1
theorem pu_UQ.uhasBag {N : Nat} {a : RidersT} {b : RidersT} (h : pu_UQ N a b) : ∀ i, ¬ i = N → qr_hasBag b i = qr_hasBag a i := h.2.2.2.2.2.2.1
theorem pu_UQ.uisProud {N : Nat} {a : RidersT} {b : RidersT} (h : pu_UQ N a b) : ∀ i, ¬ i = N → qr_isProud b i = qr_isProud a i := h.2.2.2.2.2.2.2.1
theorem pu_UQ.uheld {N : Nat} {a : RidersT} {b : RidersT} (h : pu_UQ N a b) : ∀ i, ¬ i = N → qr_held b i = qr_held a i := h.2.2.2.2.2.2.2.2.1
theorem pu_UQ.ufriends {N : Nat} {a : RidersT} {b : RidersT} (h : pu_UQ N a b) : ∀ i, ¬ i = N → qr_friends b i = qr_friends a i := h.2.2.2.2.2.2.2.2.2
theorem pu_UQ.trans {N : Nat} {a b d : RidersT} (h : pu_UQ N a b) (k : pu_UQ N b d) : pu_UQ N a d := ⟨fun i hi => (k.uname i hi).trans (h.uname i hi), fun i hi => (k.uon i hi).trans (h.uon i hi), fun i hi => (k.uoff i hi).trans (h.uoff i hi), fun i hi => (k.urule i hi).trans (h.urule i hi), fun i hi => (k.ulooks i hi).trans (h.ulooks i hi), fun i hi => (k.uage i hi).trans (h.uage i hi), fun i hi => (k.uhasBag i hi).trans (h.uhasBag i hi), fun i hi => (k.uisProud i hi).trans (h.uisProud i hi), fun i hi => (k.uheld i hi).trans (h.uheld i hi), fun i hi => (k.ufriends i hi).trans (h.ufriends i hi)⟩
def pu_QS_name (z : PlanT) (y : PlanT) (N : Nat) (x : Int64) : Prop := (pu_PQ z y) ∧ (pu_UQ N (pl_riders z) (pl_riders y)) ∧ (qr_name (pl_riders y) = vp_updL (qr_name (pl_riders z)) N x) ∧ (qr_on (pl_riders y) = qr_on (pl_riders z)) ∧ (qr_off (pl_riders y) = qr_off (pl_riders z)) ∧ (qr_rule (pl_riders y) = qr_rule (pl_riders z)) ∧ (qr_looks (pl_riders y) = qr_looks (pl_riders z)) ∧ (qr_age (pl_riders y) = qr_age (pl_riders z)) ∧ (qr_hasBag (pl_riders y) = qr_hasBag (pl_riders z)) ∧ (qr_isProud (pl_riders y) = qr_isProud (pl_riders z)) ∧ (qr_held (pl_riders y) = qr_held (pl_riders z)) ∧ (qr_friends (pl_riders y) = qr_friends (pl_riders z))
theorem pu_QS_name.pq {z : PlanT} {y : PlanT} {N : Nat} {x : Int64} (h : pu_QS_name z y N x) : pu_PQ z y := h.1
theorem pu_QS_name.uq {z : PlanT} {y : PlanT} {N : Nat} {x : Int64} (h : pu_QS_name z y N x) : pu_UQ N (pl_riders z) (pl_riders y) := h.2.1
theorem pu_QS_name.v {z : PlanT} {y : PlanT} {N : Nat} {x : Int64} (h : pu_QS_name z y N x) : qr_name (pl_riders y) = vp_updL (qr_name (pl_riders z)) N x := h.2.2.1
theorem pu_QS_name.gon {z : PlanT} {y : PlanT} {N : Nat} {x : Int64} (h : pu_QS_name z y N x) : qr_on (pl_riders y) = qr_on (pl_riders z) := h.2.2.2.1
theorem pu_QS_name.goff {z : PlanT} {y : PlanT} {N : Nat} {x : Int64} (h : pu_QS_name z y N x) : qr_off (pl_riders y) = qr_off (pl_riders z) := h.2.2.2.2.1
theorem pu_QS_name.grule {z : PlanT} {y : PlanT} {N : Nat} {x : Int64} (h : pu_QS_name z y N x) : qr_rule (pl_riders y) = qr_rule (pl_riders z) := h.2.2.2.2.2.1
theorem pu_QS_name.glooks {z : PlanT} {y : PlanT} {N : Nat} {x : Int64} (h : pu_QS_name z y N x) : qr_looks (pl_riders y) = qr_looks (pl_riders z) := h.2.2.2.2.2.2.1
theorem pu_QS_name.gage {z : PlanT} {y : PlanT} {N : Nat} {x : Int64} (h : pu_QS_name z y N x) : qr_age (pl_riders y) = qr_age (pl_riders z) := h.2.2.2.2.2.2.2.1
theorem pu_QS_name.ghasBag {z : PlanT} {y : PlanT} {N : Nat} {x : Int64} (h : pu_QS_name z y N x) : qr_hasBag (pl_riders y) = qr_hasBag (pl_riders z) := h.2.2.2.2.2.2.2.2.1
theorem pu_QS_name.gisProud {z : PlanT} {y : PlanT} {N : Nat} {x : Int64} (h : pu_QS_name z y N x) : qr_isProud (pl_riders y) = qr_isProud (pl_riders z) := h.2.2.2.2.2.2.2.2.2.1
theorem pu_QS_name.gheld {z : PlanT} {y : PlanT} {N : Nat} {x : Int64} (h : pu_QS_name z y N x) : qr_held (pl_riders y) = qr_held (pl_riders z) := h.2.2.2.2.2.2.2.2.2.2.1
theorem pu_QS_name.gfriends {z : PlanT} {y : PlanT} {N : Nat} {x : Int64} (h : pu_QS_name z y N x) : qr_friends (pl_riders y) = qr_friends (pl_riders z) := h.2.2.2.2.2.2.2.2.2.2.2
theorem pu_Qs_name (z : PlanT) (N : Nat) (x : Int64) : pu_QS_name z (pl_set_riders z (qr_set_name (pl_riders z) (vp_updL (qr_name (pl_riders z)) N x))) N x := by
  have a := pu_PQ1 z (qr_set_name (pl_riders z) (vp_updL (qr_name (pl_riders z)) N x))
  generalize pl_set_riders z (qr_set_name (pl_riders z) (vp_updL (qr_name (pl_riders z)) N x)) = y at a ⊢
  have s : ∀ (q : RidersT) (k : Nat → Int64), qr_name (qr_set_name q k) = k ∧ qr_on (qr_set_name q k) = qr_on q ∧ qr_off (qr_set_name q k) = qr_off q ∧ qr_rule (qr_set_name q k) = qr_rule q ∧ qr_looks (qr_set_name q k) = qr_looks q ∧ qr_age (qr_set_name q k) = qr_age q ∧ qr_hasBag (qr_set_name q k) = qr_hasBag q ∧ qr_isProud (qr_set_name q k) = qr_isProud q ∧ qr_held (qr_set_name q k) = qr_held q ∧ qr_friends (qr_set_name q k) = qr_friends q := fun q k => ⟨rfl, rfl, rfl, rfl, rfl, rfl, rfl, rfl, rfl, rfl⟩
  obtain ⟨a1, a2⟩ := a
  have b := s (pl_riders z) (vp_updL (qr_name (pl_riders z)) N x)
  rw [← a2] at b
  exact ⟨a1, ⟨fun i hi => by rw [b.1]; exact pk_uLn hi, fun i _ => by rw [b.2.1], fun i _ => by rw [b.2.2.1], fun i _ => by rw [b.2.2.2.1], fun i _ => by rw [b.2.2.2.2.1], fun i _ => by rw [b.2.2.2.2.2.1], fun i _ => by rw [b.2.2.2.2.2.2.1], fun i _ => by rw [b.2.2.2.2.2.2.2.1], fun i _ => by rw [b.2.2.2.2.2.2.2.2.1], fun i _ => by rw [b.2.2.2.2.2.2.2.2.2]⟩, b.1, b.2⟩
def pu_QS_on (z : PlanT) (y : PlanT) (N : Nat) (x : Int32) : Prop := (pu_PQ z y) ∧ (pu_UQ N (pl_riders z) (pl_riders y)) ∧ (qr_on (pl_riders y) = upd (qr_on (pl_riders z)) N x) ∧ (qr_name (pl_riders y) = qr_name (pl_riders z)) ∧ (qr_off (pl_riders y) = qr_off (pl_riders z)) ∧ (qr_rule (pl_riders y) = qr_rule (pl_riders z)) ∧ (qr_looks (pl_riders y) = qr_looks (pl_riders z)) ∧ (qr_age (pl_riders y) = qr_age (pl_riders z)) ∧ (qr_hasBag (pl_riders y) = qr_hasBag (pl_riders z)) ∧ (qr_isProud (pl_riders y) = qr_isProud (pl_riders z)) ∧ (qr_held (pl_riders y) = qr_held (pl_riders z)) ∧ (qr_friends (pl_riders y) = qr_friends (pl_riders z))
theorem pu_QS_on.pq {z : PlanT} {y : PlanT} {N : Nat} {x : Int32} (h : pu_QS_on z y N x) : pu_PQ z y := h.1
theorem pu_QS_on.uq {z : PlanT} {y : PlanT} {N : Nat} {x : Int32} (h : pu_QS_on z y N x) : pu_UQ N (pl_riders z) (pl_riders y) := h.2.1
theorem pu_QS_on.v {z : PlanT} {y : PlanT} {N : Nat} {x : Int32} (h : pu_QS_on z y N x) : qr_on (pl_riders y) = upd (qr_on (pl_riders z)) N x := h.2.2.1
theorem pu_QS_on.gname {z : PlanT} {y : PlanT} {N : Nat} {x : Int32} (h : pu_QS_on z y N x) : qr_name (pl_riders y) = qr_name (pl_riders z) := h.2.2.2.1
theorem pu_QS_on.goff {z : PlanT} {y : PlanT} {N : Nat} {x : Int32} (h : pu_QS_on z y N x) : qr_off (pl_riders y) = qr_off (pl_riders z) := h.2.2.2.2.1
theorem pu_QS_on.grule {z : PlanT} {y : PlanT} {N : Nat} {x : Int32} (h : pu_QS_on z y N x) : qr_rule (pl_riders y) = qr_rule (pl_riders z) := h.2.2.2.2.2.1
theorem pu_QS_on.glooks {z : PlanT} {y : PlanT} {N : Nat} {x : Int32} (h : pu_QS_on z y N x) : qr_looks (pl_riders y) = qr_looks (pl_riders z) := h.2.2.2.2.2.2.1
theorem pu_QS_on.gage {z : PlanT} {y : PlanT} {N : Nat} {x : Int32} (h : pu_QS_on z y N x) : qr_age (pl_riders y) = qr_age (pl_riders z) := h.2.2.2.2.2.2.2.1
theorem pu_QS_on.ghasBag {z : PlanT} {y : PlanT} {N : Nat} {x : Int32} (h : pu_QS_on z y N x) : qr_hasBag (pl_riders y) = qr_hasBag (pl_riders z) := h.2.2.2.2.2.2.2.2.1
theorem pu_QS_on.gisProud {z : PlanT} {y : PlanT} {N : Nat} {x : Int32} (h : pu_QS_on z y N x) : qr_isProud (pl_riders y) = qr_isProud (pl_riders z) := h.2.2.2.2.2.2.2.2.2.1
theorem pu_QS_on.gheld {z : PlanT} {y : PlanT} {N : Nat} {x : Int32} (h : pu_QS_on z y N x) : qr_held (pl_riders y) = qr_held (pl_riders z) := h.2.2.2.2.2.2.2.2.2.2.1
theorem pu_QS_on.gfriends {z : PlanT} {y : PlanT} {N : Nat} {x : Int32} (h : pu_QS_on z y N x) : qr_friends (pl_riders y) = qr_friends (pl_riders z) := h.2.2.2.2.2.2.2.2.2.2.2
theorem pu_Qs_on (z : PlanT) (N : Nat) (x : Int32) : pu_QS_on z (pl_set_riders z (qr_set_on (pl_riders z) (upd (qr_on (pl_riders z)) N x))) N x := by
  have a := pu_PQ1 z (qr_set_on (pl_riders z) (upd (qr_on (pl_riders z)) N x))
  generalize pl_set_riders z (qr_set_on (pl_riders z) (upd (qr_on (pl_riders z)) N x)) = y at a ⊢
  have s : ∀ (q : RidersT) (k : Nat → Int32), qr_on (qr_set_on q k) = k ∧ qr_name (qr_set_on q k) = qr_name q ∧ qr_off (qr_set_on q k) = qr_off q ∧ qr_rule (qr_set_on q k) = qr_rule q ∧ qr_looks (qr_set_on q k) = qr_looks q ∧ qr_age (qr_set_on q k) = qr_age q ∧ qr_hasBag (qr_set_on q k) = qr_hasBag q ∧ qr_isProud (qr_set_on q k) = qr_isProud q ∧ qr_held (qr_set_on q k) = qr_held q ∧ qr_friends (qr_set_on q k) = qr_friends q := fun q k => ⟨rfl, rfl, rfl, rfl, rfl, rfl, rfl, rfl, rfl, rfl⟩
  obtain ⟨a1, a2⟩ := a
  have b := s (pl_riders z) (upd (qr_on (pl_riders z)) N x)
  rw [← a2] at b
  exact ⟨a1, ⟨fun i _ => by rw [b.2.1], fun i hi => by rw [b.1]; exact pk_un hi, fun i _ => by rw [b.2.2.1], fun i _ => by rw [b.2.2.2.1], fun i _ => by rw [b.2.2.2.2.1], fun i _ => by rw [b.2.2.2.2.2.1], fun i _ => by rw [b.2.2.2.2.2.2.1], fun i _ => by rw [b.2.2.2.2.2.2.2.1], fun i _ => by rw [b.2.2.2.2.2.2.2.2.1], fun i _ => by rw [b.2.2.2.2.2.2.2.2.2]⟩, b.1, b.2⟩
def pu_QS_off (z : PlanT) (y : PlanT) (N : Nat) (x : Int32) : Prop := (pu_PQ z y) ∧ (pu_UQ N (pl_riders z) (pl_riders y)) ∧ (qr_off (pl_riders y) = upd (qr_off (pl_riders z)) N x) ∧ (qr_name (pl_riders y) = qr_name (pl_riders z)) ∧ (qr_on (pl_riders y) = qr_on (pl_riders z)) ∧ (qr_rule (pl_riders y) = qr_rule (pl_riders z)) ∧ (qr_looks (pl_riders y) = qr_looks (pl_riders z)) ∧ (qr_age (pl_riders y) = qr_age (pl_riders z)) ∧ (qr_hasBag (pl_riders y) = qr_hasBag (pl_riders z)) ∧ (qr_isProud (pl_riders y) = qr_isProud (pl_riders z)) ∧ (qr_held (pl_riders y) = qr_held (pl_riders z)) ∧ (qr_friends (pl_riders y) = qr_friends (pl_riders z))
theorem pu_QS_off.pq {z : PlanT} {y : PlanT} {N : Nat} {x : Int32} (h : pu_QS_off z y N x) : pu_PQ z y := h.1
theorem pu_QS_off.uq {z : PlanT} {y : PlanT} {N : Nat} {x : Int32} (h : pu_QS_off z y N x) : pu_UQ N (pl_riders z) (pl_riders y) := h.2.1
theorem pu_QS_off.v {z : PlanT} {y : PlanT} {N : Nat} {x : Int32} (h : pu_QS_off z y N x) : qr_off (pl_riders y) = upd (qr_off (pl_riders z)) N x := h.2.2.1
theorem pu_QS_off.gname {z : PlanT} {y : PlanT} {N : Nat} {x : Int32} (h : pu_QS_off z y N x) : qr_name (pl_riders y) = qr_name (pl_riders z) := h.2.2.2.1
theorem pu_QS_off.gon {z : PlanT} {y : PlanT} {N : Nat} {x : Int32} (h : pu_QS_off z y N x) : qr_on (pl_riders y) = qr_on (pl_riders z) := h.2.2.2.2.1
theorem pu_QS_off.grule {z : PlanT} {y : PlanT} {N : Nat} {x : Int32} (h : pu_QS_off z y N x) : qr_rule (pl_riders y) = qr_rule (pl_riders z) := h.2.2.2.2.2.1
theorem pu_QS_off.glooks {z : PlanT} {y : PlanT} {N : Nat} {x : Int32} (h : pu_QS_off z y N x) : qr_looks (pl_riders y) = qr_looks (pl_riders z) := h.2.2.2.2.2.2.1
theorem pu_QS_off.gage {z : PlanT} {y : PlanT} {N : Nat} {x : Int32} (h : pu_QS_off z y N x) : qr_age (pl_riders y) = qr_age (pl_riders z) := h.2.2.2.2.2.2.2.1
theorem pu_QS_off.ghasBag {z : PlanT} {y : PlanT} {N : Nat} {x : Int32} (h : pu_QS_off z y N x) : qr_hasBag (pl_riders y) = qr_hasBag (pl_riders z) := h.2.2.2.2.2.2.2.2.1
theorem pu_QS_off.gisProud {z : PlanT} {y : PlanT} {N : Nat} {x : Int32} (h : pu_QS_off z y N x) : qr_isProud (pl_riders y) = qr_isProud (pl_riders z) := h.2.2.2.2.2.2.2.2.2.1
theorem pu_QS_off.gheld {z : PlanT} {y : PlanT} {N : Nat} {x : Int32} (h : pu_QS_off z y N x) : qr_held (pl_riders y) = qr_held (pl_riders z) := h.2.2.2.2.2.2.2.2.2.2.1
theorem pu_QS_off.gfriends {z : PlanT} {y : PlanT} {N : Nat} {x : Int32} (h : pu_QS_off z y N x) : qr_friends (pl_riders y) = qr_friends (pl_riders z) := h.2.2.2.2.2.2.2.2.2.2.2
theorem pu_Qs_off (z : PlanT) (N : Nat) (x : Int32) : pu_QS_off z (pl_set_riders z (qr_set_off (pl_riders z) (upd (qr_off (pl_riders z)) N x))) N x := by
  have a := pu_PQ1 z (qr_set_off (pl_riders z) (upd (qr_off (pl_riders z)) N x))
  generalize pl_set_riders z (qr_set_off (pl_riders z) (upd (qr_off (pl_riders z)) N x)) = y at a ⊢
  have s : ∀ (q : RidersT) (k : Nat → Int32), qr_off (qr_set_off q k) = k ∧ qr_name (qr_set_off q k) = qr_name q ∧ qr_on (qr_set_off q k) = qr_on q ∧ qr_rule (qr_set_off q k) = qr_rule q ∧ qr_looks (qr_set_off q k) = qr_looks q ∧ qr_age (qr_set_off q k) = qr_age q ∧ qr_hasBag (qr_set_off q k) = qr_hasBag q ∧ qr_isProud (qr_set_off q k) = qr_isProud q ∧ qr_held (qr_set_off q k) = qr_held q ∧ qr_friends (qr_set_off q k) = qr_friends q := fun q k => ⟨rfl, rfl, rfl, rfl, rfl, rfl, rfl, rfl, rfl, rfl⟩
  obtain ⟨a1, a2⟩ := a
  have b := s (pl_riders z) (upd (qr_off (pl_riders z)) N x)
  rw [← a2] at b
  exact ⟨a1, ⟨fun i _ => by rw [b.2.1], fun i _ => by rw [b.2.2.1], fun i hi => by rw [b.1]; exact pk_un hi, fun i _ => by rw [b.2.2.2.1], fun i _ => by rw [b.2.2.2.2.1], fun i _ => by rw [b.2.2.2.2.2.1], fun i _ => by rw [b.2.2.2.2.2.2.1], fun i _ => by rw [b.2.2.2.2.2.2.2.1], fun i _ => by rw [b.2.2.2.2.2.2.2.2.1], fun i _ => by rw [b.2.2.2.2.2.2.2.2.2]⟩, b.1, b.2⟩
def pu_QS_rule (z : PlanT) (y : PlanT) (N : Nat) (x : Int32) : Prop := (pu_PQ z y) ∧ (pu_UQ N (pl_riders z) (pl_riders y)) ∧ (qr_rule (pl_riders y) = upd (qr_rule (pl_riders z)) N x) ∧ (qr_name (pl_riders y) = qr_name (pl_riders z)) ∧ (qr_on (pl_riders y) = qr_on (pl_riders z)) ∧ (qr_off (pl_riders y) = qr_off (pl_riders z)) ∧ (qr_looks (pl_riders y) = qr_looks (pl_riders z)) ∧ (qr_age (pl_riders y) = qr_age (pl_riders z)) ∧ (qr_hasBag (pl_riders y) = qr_hasBag (pl_riders z)) ∧ (qr_isProud (pl_riders y) = qr_isProud (pl_riders z)) ∧ (qr_held (pl_riders y) = qr_held (pl_riders z)) ∧ (qr_friends (pl_riders y) = qr_friends (pl_riders z))
theorem pu_QS_rule.pq {z : PlanT} {y : PlanT} {N : Nat} {x : Int32} (h : pu_QS_rule z y N x) : pu_PQ z y := h.1
theorem pu_QS_rule.uq {z : PlanT} {y : PlanT} {N : Nat} {x : Int32} (h : pu_QS_rule z y N x) : pu_UQ N (pl_riders z) (pl_riders y) := h.2.1
theorem pu_QS_rule.v {z : PlanT} {y : PlanT} {N : Nat} {x : Int32} (h : pu_QS_rule z y N x) : qr_rule (pl_riders y) = upd (qr_rule (pl_riders z)) N x := h.2.2.1
theorem pu_QS_rule.gname {z : PlanT} {y : PlanT} {N : Nat} {x : Int32} (h : pu_QS_rule z y N x) : qr_name (pl_riders y) = qr_name (pl_riders z) := h.2.2.2.1
theorem pu_QS_rule.gon {z : PlanT} {y : PlanT} {N : Nat} {x : Int32} (h : pu_QS_rule z y N x) : qr_on (pl_riders y) = qr_on (pl_riders z) := h.2.2.2.2.1
theorem pu_QS_rule.goff {z : PlanT} {y : PlanT} {N : Nat} {x : Int32} (h : pu_QS_rule z y N x) : qr_off (pl_riders y) = qr_off (pl_riders z) := h.2.2.2.2.2.1
theorem pu_QS_rule.glooks {z : PlanT} {y : PlanT} {N : Nat} {x : Int32} (h : pu_QS_rule z y N x) : qr_looks (pl_riders y) = qr_looks (pl_riders z) := h.2.2.2.2.2.2.1
theorem pu_QS_rule.gage {z : PlanT} {y : PlanT} {N : Nat} {x : Int32} (h : pu_QS_rule z y N x) : qr_age (pl_riders y) = qr_age (pl_riders z) := h.2.2.2.2.2.2.2.1
theorem pu_QS_rule.ghasBag {z : PlanT} {y : PlanT} {N : Nat} {x : Int32} (h : pu_QS_rule z y N x) : qr_hasBag (pl_riders y) = qr_hasBag (pl_riders z) := h.2.2.2.2.2.2.2.2.1
theorem pu_QS_rule.gisProud {z : PlanT} {y : PlanT} {N : Nat} {x : Int32} (h : pu_QS_rule z y N x) : qr_isProud (pl_riders y) = qr_isProud (pl_riders z) := h.2.2.2.2.2.2.2.2.2.1
theorem pu_QS_rule.gheld {z : PlanT} {y : PlanT} {N : Nat} {x : Int32} (h : pu_QS_rule z y N x) : qr_held (pl_riders y) = qr_held (pl_riders z) := h.2.2.2.2.2.2.2.2.2.2.1
theorem pu_QS_rule.gfriends {z : PlanT} {y : PlanT} {N : Nat} {x : Int32} (h : pu_QS_rule z y N x) : qr_friends (pl_riders y) = qr_friends (pl_riders z) := h.2.2.2.2.2.2.2.2.2.2.2
theorem pu_Qs_rule (z : PlanT) (N : Nat) (x : Int32) : pu_QS_rule z (pl_set_riders z (qr_set_rule (pl_riders z) (upd (qr_rule (pl_riders z)) N x))) N x := by
  have a := pu_PQ1 z (qr_set_rule (pl_riders z) (upd (qr_rule (pl_riders z)) N x))
  generalize pl_set_riders z (qr_set_rule (pl_riders z) (upd (qr_rule (pl_riders z)) N x)) = y at a ⊢
  have s : ∀ (q : RidersT) (k : Nat → Int32), qr_rule (qr_set_rule q k) = k ∧ qr_name (qr_set_rule q k) = qr_name q ∧ qr_on (qr_set_rule q k) = qr_on q ∧ qr_off (qr_set_rule q k) = qr_off q ∧ qr_looks (qr_set_rule q k) = qr_looks q ∧ qr_age (qr_set_rule q k) = qr_age q ∧ qr_hasBag (qr_set_rule q k) = qr_hasBag q ∧ qr_isProud (qr_set_rule q k) = qr_isProud q ∧ qr_held (qr_set_rule q k) = qr_held q ∧ qr_friends (qr_set_rule q k) = qr_friends q := fun q k => ⟨rfl, rfl, rfl, rfl, rfl, rfl, rfl, rfl, rfl, rfl⟩
  obtain ⟨a1, a2⟩ := a
  have b := s (pl_riders z) (upd (qr_rule (pl_riders z)) N x)
  rw [← a2] at b
  exact ⟨a1, ⟨fun i _ => by rw [b.2.1], fun i _ => by rw [b.2.2.1], fun i _ => by rw [b.2.2.2.1], fun i hi => by rw [b.1]; exact pk_un hi, fun i _ => by rw [b.2.2.2.2.1], fun i _ => by rw [b.2.2.2.2.2.1], fun i _ => by rw [b.2.2.2.2.2.2.1], fun i _ => by rw [b.2.2.2.2.2.2.2.1], fun i _ => by rw [b.2.2.2.2.2.2.2.2.1], fun i _ => by rw [b.2.2.2.2.2.2.2.2.2]⟩, b.1, b.2⟩
def pu_QS_looks (z : PlanT) (y : PlanT) (N : Nat) (x : Int32) : Prop := (pu_PQ z y) ∧ (pu_UQ N (pl_riders z) (pl_riders y)) ∧ (qr_looks (pl_riders y) = upd (qr_looks (pl_riders z)) N x) ∧ (qr_name (pl_riders y) = qr_name (pl_riders z)) ∧ (qr_on (pl_riders y) = qr_on (pl_riders z)) ∧ (qr_off (pl_riders y) = qr_off (pl_riders z)) ∧ (qr_rule (pl_riders y) = qr_rule (pl_riders z)) ∧ (qr_age (pl_riders y) = qr_age (pl_riders z)) ∧ (qr_hasBag (pl_riders y) = qr_hasBag (pl_riders z)) ∧ (qr_isProud (pl_riders y) = qr_isProud (pl_riders z)) ∧ (qr_held (pl_riders y) = qr_held (pl_riders z)) ∧ (qr_friends (pl_riders y) = qr_friends (pl_riders z))
theorem pu_QS_looks.pq {z : PlanT} {y : PlanT} {N : Nat} {x : Int32} (h : pu_QS_looks z y N x) : pu_PQ z y := h.1
theorem pu_QS_looks.uq {z : PlanT} {y : PlanT} {N : Nat} {x : Int32} (h : pu_QS_looks z y N x) : pu_UQ N (pl_riders z) (pl_riders y) := h.2.1
theorem pu_QS_looks.v {z : PlanT} {y : PlanT} {N : Nat} {x : Int32} (h : pu_QS_looks z y N x) : qr_looks (pl_riders y) = upd (qr_looks (pl_riders z)) N x := h.2.2.1
theorem pu_QS_looks.gname {z : PlanT} {y : PlanT} {N : Nat} {x : Int32} (h : pu_QS_looks z y N x) : qr_name (pl_riders y) = qr_name (pl_riders z) := h.2.2.2.1
theorem pu_QS_looks.gon {z : PlanT} {y : PlanT} {N : Nat} {x : Int32} (h : pu_QS_looks z y N x) : qr_on (pl_riders y) = qr_on (pl_riders z) := h.2.2.2.2.1
theorem pu_QS_looks.goff {z : PlanT} {y : PlanT} {N : Nat} {x : Int32} (h : pu_QS_looks z y N x) : qr_off (pl_riders y) = qr_off (pl_riders z) := h.2.2.2.2.2.1
theorem pu_QS_looks.grule {z : PlanT} {y : PlanT} {N : Nat} {x : Int32} (h : pu_QS_looks z y N x) : qr_rule (pl_riders y) = qr_rule (pl_riders z) := h.2.2.2.2.2.2.1
theorem pu_QS_looks.gage {z : PlanT} {y : PlanT} {N : Nat} {x : Int32} (h : pu_QS_looks z y N x) : qr_age (pl_riders y) = qr_age (pl_riders z) := h.2.2.2.2.2.2.2.1
theorem pu_QS_looks.ghasBag {z : PlanT} {y : PlanT} {N : Nat} {x : Int32} (h : pu_QS_looks z y N x) : qr_hasBag (pl_riders y) = qr_hasBag (pl_riders z) := h.2.2.2.2.2.2.2.2.1
theorem pu_QS_looks.gisProud {z : PlanT} {y : PlanT} {N : Nat} {x : Int32} (h : pu_QS_looks z y N x) : qr_isProud (pl_riders y) = qr_isProud (pl_riders z) := h.2.2.2.2.2.2.2.2.2.1
theorem pu_QS_looks.gheld {z : PlanT} {y : PlanT} {N : Nat} {x : Int32} (h : pu_QS_looks z y N x) : qr_held (pl_riders y) = qr_held (pl_riders z) := h.2.2.2.2.2.2.2.2.2.2.1
theorem pu_QS_looks.gfriends {z : PlanT} {y : PlanT} {N : Nat} {x : Int32} (h : pu_QS_looks z y N x) : qr_friends (pl_riders y) = qr_friends (pl_riders z) := h.2.2.2.2.2.2.2.2.2.2.2
theorem pu_Qs_looks (z : PlanT) (N : Nat) (x : Int32) : pu_QS_looks z (pl_set_riders z (qr_set_looks (pl_riders z) (upd (qr_looks (pl_riders z)) N x))) N x := by
  have a := pu_PQ1 z (qr_set_looks (pl_riders z) (upd (qr_looks (pl_riders z)) N x))
  generalize pl_set_riders z (qr_set_looks (pl_riders z) (upd (qr_looks (pl_riders z)) N x)) = y at a ⊢
  have s : ∀ (q : RidersT) (k : Nat → Int32), qr_looks (qr_set_looks q k) = k ∧ qr_name (qr_set_looks q k) = qr_name q ∧ qr_on (qr_set_looks q k) = qr_on q ∧ qr_off (qr_set_looks q k) = qr_off q ∧ qr_rule (qr_set_looks q k) = qr_rule q ∧ qr_age (qr_set_looks q k) = qr_age q ∧ qr_hasBag (qr_set_looks q k) = qr_hasBag q ∧ qr_isProud (qr_set_looks q k) = qr_isProud q ∧ qr_held (qr_set_looks q k) = qr_held q ∧ qr_friends (qr_set_looks q k) = qr_friends q := fun q k => ⟨rfl, rfl, rfl, rfl, rfl, rfl, rfl, rfl, rfl, rfl⟩
  obtain ⟨a1, a2⟩ := a
  have b := s (pl_riders z) (upd (qr_looks (pl_riders z)) N x)
  rw [← a2] at b
  exact ⟨a1, ⟨fun i _ => by rw [b.2.1], fun i _ => by rw [b.2.2.1], fun i _ => by rw [b.2.2.2.1], fun i _ => by rw [b.2.2.2.2.1], fun i hi => by rw [b.1]; exact pk_un hi, fun i _ => by rw [b.2.2.2.2.2.1], fun i _ => by rw [b.2.2.2.2.2.2.1], fun i _ => by rw [b.2.2.2.2.2.2.2.1], fun i _ => by rw [b.2.2.2.2.2.2.2.2.1], fun i _ => by rw [b.2.2.2.2.2.2.2.2.2]⟩, b.1, b.2⟩
def pu_QS_age (z : PlanT) (y : PlanT) (N : Nat) (x : Int32) : Prop := (pu_PQ z y) ∧ (pu_UQ N (pl_riders z) (pl_riders y)) ∧ (qr_age (pl_riders y) = upd (qr_age (pl_riders z)) N x) ∧ (qr_name (pl_riders y) = qr_name (pl_riders z)) ∧ (qr_on (pl_riders y) = qr_on (pl_riders z)) ∧ (qr_off (pl_riders y) = qr_off (pl_riders z)) ∧ (qr_rule (pl_riders y) = qr_rule (pl_riders z)) ∧ (qr_looks (pl_riders y) = qr_looks (pl_riders z)) ∧ (qr_hasBag (pl_riders y) = qr_hasBag (pl_riders z)) ∧ (qr_isProud (pl_riders y) = qr_isProud (pl_riders z)) ∧ (qr_held (pl_riders y) = qr_held (pl_riders z)) ∧ (qr_friends (pl_riders y) = qr_friends (pl_riders z))
theorem pu_QS_age.pq {z : PlanT} {y : PlanT} {N : Nat} {x : Int32} (h : pu_QS_age z y N x) : pu_PQ z y := h.1
theorem pu_QS_age.uq {z : PlanT} {y : PlanT} {N : Nat} {x : Int32} (h : pu_QS_age z y N x) : pu_UQ N (pl_riders z) (pl_riders y) := h.2.1
theorem pu_QS_age.v {z : PlanT} {y : PlanT} {N : Nat} {x : Int32} (h : pu_QS_age z y N x) : qr_age (pl_riders y) = upd (qr_age (pl_riders z)) N x := h.2.2.1
theorem pu_QS_age.gname {z : PlanT} {y : PlanT} {N : Nat} {x : Int32} (h : pu_QS_age z y N x) : qr_name (pl_riders y) = qr_name (pl_riders z) := h.2.2.2.1
theorem pu_QS_age.gon {z : PlanT} {y : PlanT} {N : Nat} {x : Int32} (h : pu_QS_age z y N x) : qr_on (pl_riders y) = qr_on (pl_riders z) := h.2.2.2.2.1
theorem pu_QS_age.goff {z : PlanT} {y : PlanT} {N : Nat} {x : Int32} (h : pu_QS_age z y N x) : qr_off (pl_riders y) = qr_off (pl_riders z) := h.2.2.2.2.2.1
theorem pu_QS_age.grule {z : PlanT} {y : PlanT} {N : Nat} {x : Int32} (h : pu_QS_age z y N x) : qr_rule (pl_riders y) = qr_rule (pl_riders z) := h.2.2.2.2.2.2.1
theorem pu_QS_age.glooks {z : PlanT} {y : PlanT} {N : Nat} {x : Int32} (h : pu_QS_age z y N x) : qr_looks (pl_riders y) = qr_looks (pl_riders z) := h.2.2.2.2.2.2.2.1
theorem pu_QS_age.ghasBag {z : PlanT} {y : PlanT} {N : Nat} {x : Int32} (h : pu_QS_age z y N x) : qr_hasBag (pl_riders y) = qr_hasBag (pl_riders z) := h.2.2.2.2.2.2.2.2.1
theorem pu_QS_age.gisProud {z : PlanT} {y : PlanT} {N : Nat} {x : Int32} (h : pu_QS_age z y N x) : qr_isProud (pl_riders y) = qr_isProud (pl_riders z) := h.2.2.2.2.2.2.2.2.2.1
theorem pu_QS_age.gheld {z : PlanT} {y : PlanT} {N : Nat} {x : Int32} (h : pu_QS_age z y N x) : qr_held (pl_riders y) = qr_held (pl_riders z) := h.2.2.2.2.2.2.2.2.2.2.1
theorem pu_QS_age.gfriends {z : PlanT} {y : PlanT} {N : Nat} {x : Int32} (h : pu_QS_age z y N x) : qr_friends (pl_riders y) = qr_friends (pl_riders z) := h.2.2.2.2.2.2.2.2.2.2.2
theorem pu_Qs_age (z : PlanT) (N : Nat) (x : Int32) : pu_QS_age z (pl_set_riders z (qr_set_age (pl_riders z) (upd (qr_age (pl_riders z)) N x))) N x := by
  have a := pu_PQ1 z (qr_set_age (pl_riders z) (upd (qr_age (pl_riders z)) N x))
  generalize pl_set_riders z (qr_set_age (pl_riders z) (upd (qr_age (pl_riders z)) N x)) = y at a ⊢
  have s : ∀ (q : RidersT) (k : Nat → Int32), qr_age (qr_set_age q k) = k ∧ qr_name (qr_set_age q k) = qr_name q ∧ qr_on (qr_set_age q k) = qr_on q ∧ qr_off (qr_set_age q k) = qr_off q ∧ qr_rule (qr_set_age q k) = qr_rule q ∧ qr_looks (qr_set_age q k) = qr_looks q ∧ qr_hasBag (qr_set_age q k) = qr_hasBag q ∧ qr_isProud (qr_set_age q k) = qr_isProud q ∧ qr_held (qr_set_age q k) = qr_held q ∧ qr_friends (qr_set_age q k) = qr_friends q := fun q k => ⟨rfl, rfl, rfl, rfl, rfl, rfl, rfl, rfl, rfl, rfl⟩
  obtain ⟨a1, a2⟩ := a
  have b := s (pl_riders z) (upd (qr_age (pl_riders z)) N x)
  rw [← a2] at b
  exact ⟨a1, ⟨fun i _ => by rw [b.2.1], fun i _ => by rw [b.2.2.1], fun i _ => by rw [b.2.2.2.1], fun i _ => by rw [b.2.2.2.2.1], fun i _ => by rw [b.2.2.2.2.2.1], fun i hi => by rw [b.1]; exact pk_un hi, fun i _ => by rw [b.2.2.2.2.2.2.1], fun i _ => by rw [b.2.2.2.2.2.2.2.1], fun i _ => by rw [b.2.2.2.2.2.2.2.2.1], fun i _ => by rw [b.2.2.2.2.2.2.2.2.2]⟩, b.1, b.2⟩
def pu_QS_hasBag (z : PlanT) (y : PlanT) (N : Nat) (x : Int32) : Prop := (pu_PQ z y) ∧ (pu_UQ N (pl_riders z) (pl_riders y)) ∧ (qr_hasBag (pl_riders y) = upd (qr_hasBag (pl_riders z)) N x) ∧ (qr_name (pl_riders y) = qr_name (pl_riders z)) ∧ (qr_on (pl_riders y) = qr_on (pl_riders z)) ∧ (qr_off (pl_riders y) = qr_off (pl_riders z)) ∧ (qr_rule (pl_riders y) = qr_rule (pl_riders z)) ∧ (qr_looks (pl_riders y) = qr_looks (pl_riders z)) ∧ (qr_age (pl_riders y) = qr_age (pl_riders z)) ∧ (qr_isProud (pl_riders y) = qr_isProud (pl_riders z)) ∧ (qr_held (pl_riders y) = qr_held (pl_riders z)) ∧ (qr_friends (pl_riders y) = qr_friends (pl_riders z))
theorem pu_QS_hasBag.pq {z : PlanT} {y : PlanT} {N : Nat} {x : Int32} (h : pu_QS_hasBag z y N x) : pu_PQ z y := h.1
theorem pu_QS_hasBag.uq {z : PlanT} {y : PlanT} {N : Nat} {x : Int32} (h : pu_QS_hasBag z y N x) : pu_UQ N (pl_riders z) (pl_riders y) := h.2.1
theorem pu_QS_hasBag.v {z : PlanT} {y : PlanT} {N : Nat} {x : Int32} (h : pu_QS_hasBag z y N x) : qr_hasBag (pl_riders y) = upd (qr_hasBag (pl_riders z)) N x := h.2.2.1
theorem pu_QS_hasBag.gname {z : PlanT} {y : PlanT} {N : Nat} {x : Int32} (h : pu_QS_hasBag z y N x) : qr_name (pl_riders y) = qr_name (pl_riders z) := h.2.2.2.1
theorem pu_QS_hasBag.gon {z : PlanT} {y : PlanT} {N : Nat} {x : Int32} (h : pu_QS_hasBag z y N x) : qr_on (pl_riders y) = qr_on (pl_riders z) := h.2.2.2.2.1
theorem pu_QS_hasBag.goff {z : PlanT} {y : PlanT} {N : Nat} {x : Int32} (h : pu_QS_hasBag z y N x) : qr_off (pl_riders y) = qr_off (pl_riders z) := h.2.2.2.2.2.1
theorem pu_QS_hasBag.grule {z : PlanT} {y : PlanT} {N : Nat} {x : Int32} (h : pu_QS_hasBag z y N x) : qr_rule (pl_riders y) = qr_rule (pl_riders z) := h.2.2.2.2.2.2.1
theorem pu_QS_hasBag.glooks {z : PlanT} {y : PlanT} {N : Nat} {x : Int32} (h : pu_QS_hasBag z y N x) : qr_looks (pl_riders y) = qr_looks (pl_riders z) := h.2.2.2.2.2.2.2.1
theorem pu_QS_hasBag.gage {z : PlanT} {y : PlanT} {N : Nat} {x : Int32} (h : pu_QS_hasBag z y N x) : qr_age (pl_riders y) = qr_age (pl_riders z) := h.2.2.2.2.2.2.2.2.1
theorem pu_QS_hasBag.gisProud {z : PlanT} {y : PlanT} {N : Nat} {x : Int32} (h : pu_QS_hasBag z y N x) : qr_isProud (pl_riders y) = qr_isProud (pl_riders z) := h.2.2.2.2.2.2.2.2.2.1
theorem pu_QS_hasBag.gheld {z : PlanT} {y : PlanT} {N : Nat} {x : Int32} (h : pu_QS_hasBag z y N x) : qr_held (pl_riders y) = qr_held (pl_riders z) := h.2.2.2.2.2.2.2.2.2.2.1
theorem pu_QS_hasBag.gfriends {z : PlanT} {y : PlanT} {N : Nat} {x : Int32} (h : pu_QS_hasBag z y N x) : qr_friends (pl_riders y) = qr_friends (pl_riders z) := h.2.2.2.2.2.2.2.2.2.2.2
theorem pu_Qs_hasBag (z : PlanT) (N : Nat) (x : Int32) : pu_QS_hasBag z (pl_set_riders z (qr_set_hasBag (pl_riders z) (upd (qr_hasBag (pl_riders z)) N x))) N x := by
  have a := pu_PQ1 z (qr_set_hasBag (pl_riders z) (upd (qr_hasBag (pl_riders z)) N x))
  generalize pl_set_riders z (qr_set_hasBag (pl_riders z) (upd (qr_hasBag (pl_riders z)) N x)) = y at a ⊢
  have s : ∀ (q : RidersT) (k : Nat → Int32), qr_hasBag (qr_set_hasBag q k) = k ∧ qr_name (qr_set_hasBag q k) = qr_name q ∧ qr_on (qr_set_hasBag q k) = qr_on q ∧ qr_off (qr_set_hasBag q k) = qr_off q ∧ qr_rule (qr_set_hasBag q k) = qr_rule q ∧ qr_looks (qr_set_hasBag q k) = qr_looks q ∧ qr_age (qr_set_hasBag q k) = qr_age q ∧ qr_isProud (qr_set_hasBag q k) = qr_isProud q ∧ qr_held (qr_set_hasBag q k) = qr_held q ∧ qr_friends (qr_set_hasBag q k) = qr_friends q := fun q k => ⟨rfl, rfl, rfl, rfl, rfl, rfl, rfl, rfl, rfl, rfl⟩
  obtain ⟨a1, a2⟩ := a
  have b := s (pl_riders z) (upd (qr_hasBag (pl_riders z)) N x)
  rw [← a2] at b
  exact ⟨a1, ⟨fun i _ => by rw [b.2.1], fun i _ => by rw [b.2.2.1], fun i _ => by rw [b.2.2.2.1], fun i _ => by rw [b.2.2.2.2.1], fun i _ => by rw [b.2.2.2.2.2.1], fun i _ => by rw [b.2.2.2.2.2.2.1], fun i hi => by rw [b.1]; exact pk_un hi, fun i _ => by rw [b.2.2.2.2.2.2.2.1], fun i _ => by rw [b.2.2.2.2.2.2.2.2.1], fun i _ => by rw [b.2.2.2.2.2.2.2.2.2]⟩, b.1, b.2⟩
def pu_QS_isProud (z : PlanT) (y : PlanT) (N : Nat) (x : Int32) : Prop := (pu_PQ z y) ∧ (pu_UQ N (pl_riders z) (pl_riders y)) ∧ (qr_isProud (pl_riders y) = upd (qr_isProud (pl_riders z)) N x) ∧ (qr_name (pl_riders y) = qr_name (pl_riders z)) ∧ (qr_on (pl_riders y) = qr_on (pl_riders z)) ∧ (qr_off (pl_riders y) = qr_off (pl_riders z)) ∧ (qr_rule (pl_riders y) = qr_rule (pl_riders z)) ∧ (qr_looks (pl_riders y) = qr_looks (pl_riders z)) ∧ (qr_age (pl_riders y) = qr_age (pl_riders z)) ∧ (qr_hasBag (pl_riders y) = qr_hasBag (pl_riders z)) ∧ (qr_held (pl_riders y) = qr_held (pl_riders z)) ∧ (qr_friends (pl_riders y) = qr_friends (pl_riders z))
theorem pu_QS_isProud.pq {z : PlanT} {y : PlanT} {N : Nat} {x : Int32} (h : pu_QS_isProud z y N x) : pu_PQ z y := h.1
theorem pu_QS_isProud.uq {z : PlanT} {y : PlanT} {N : Nat} {x : Int32} (h : pu_QS_isProud z y N x) : pu_UQ N (pl_riders z) (pl_riders y) := h.2.1
theorem pu_QS_isProud.v {z : PlanT} {y : PlanT} {N : Nat} {x : Int32} (h : pu_QS_isProud z y N x) : qr_isProud (pl_riders y) = upd (qr_isProud (pl_riders z)) N x := h.2.2.1
theorem pu_QS_isProud.gname {z : PlanT} {y : PlanT} {N : Nat} {x : Int32} (h : pu_QS_isProud z y N x) : qr_name (pl_riders y) = qr_name (pl_riders z) := h.2.2.2.1
theorem pu_QS_isProud.gon {z : PlanT} {y : PlanT} {N : Nat} {x : Int32} (h : pu_QS_isProud z y N x) : qr_on (pl_riders y) = qr_on (pl_riders z) := h.2.2.2.2.1
theorem pu_QS_isProud.goff {z : PlanT} {y : PlanT} {N : Nat} {x : Int32} (h : pu_QS_isProud z y N x) : qr_off (pl_riders y) = qr_off (pl_riders z) := h.2.2.2.2.2.1
theorem pu_QS_isProud.grule {z : PlanT} {y : PlanT} {N : Nat} {x : Int32} (h : pu_QS_isProud z y N x) : qr_rule (pl_riders y) = qr_rule (pl_riders z) := h.2.2.2.2.2.2.1
theorem pu_QS_isProud.glooks {z : PlanT} {y : PlanT} {N : Nat} {x : Int32} (h : pu_QS_isProud z y N x) : qr_looks (pl_riders y) = qr_looks (pl_riders z) := h.2.2.2.2.2.2.2.1
theorem pu_QS_isProud.gage {z : PlanT} {y : PlanT} {N : Nat} {x : Int32} (h : pu_QS_isProud z y N x) : qr_age (pl_riders y) = qr_age (pl_riders z) := h.2.2.2.2.2.2.2.2.1
theorem pu_QS_isProud.ghasBag {z : PlanT} {y : PlanT} {N : Nat} {x : Int32} (h : pu_QS_isProud z y N x) : qr_hasBag (pl_riders y) = qr_hasBag (pl_riders z) := h.2.2.2.2.2.2.2.2.2.1
theorem pu_QS_isProud.gheld {z : PlanT} {y : PlanT} {N : Nat} {x : Int32} (h : pu_QS_isProud z y N x) : qr_held (pl_riders y) = qr_held (pl_riders z) := h.2.2.2.2.2.2.2.2.2.2.1
theorem pu_QS_isProud.gfriends {z : PlanT} {y : PlanT} {N : Nat} {x : Int32} (h : pu_QS_isProud z y N x) : qr_friends (pl_riders y) = qr_friends (pl_riders z) := h.2.2.2.2.2.2.2.2.2.2.2
theorem pu_Qs_isProud (z : PlanT) (N : Nat) (x : Int32) : pu_QS_isProud z (pl_set_riders z (qr_set_isProud (pl_riders z) (upd (qr_isProud (pl_riders z)) N x))) N x := by
  have a := pu_PQ1 z (qr_set_isProud (pl_riders z) (upd (qr_isProud (pl_riders z)) N x))
  generalize pl_set_riders z (qr_set_isProud (pl_riders z) (upd (qr_isProud (pl_riders z)) N x)) = y at a ⊢
  have s : ∀ (q : RidersT) (k : Nat → Int32), qr_isProud (qr_set_isProud q k) = k ∧ qr_name (qr_set_isProud q k) = qr_name q ∧ qr_on (qr_set_isProud q k) = qr_on q ∧ qr_off (qr_set_isProud q k) = qr_off q ∧ qr_rule (qr_set_isProud q k) = qr_rule q ∧ qr_looks (qr_set_isProud q k) = qr_looks q ∧ qr_age (qr_set_isProud q k) = qr_age q ∧ qr_hasBag (qr_set_isProud q k) = qr_hasBag q ∧ qr_held (qr_set_isProud q k) = qr_held q ∧ qr_friends (qr_set_isProud q k) = qr_friends q := fun q k => ⟨rfl, rfl, rfl, rfl, rfl, rfl, rfl, rfl, rfl, rfl⟩
  obtain ⟨a1, a2⟩ := a
  have b := s (pl_riders z) (upd (qr_isProud (pl_riders z)) N x)
  rw [← a2] at b
  exact ⟨a1, ⟨fun i _ => by rw [b.2.1], fun i _ => by rw [b.2.2.1], fun i _ => by rw [b.2.2.2.1], fun i _ => by rw [b.2.2.2.2.1], fun i _ => by rw [b.2.2.2.2.2.1], fun i _ => by rw [b.2.2.2.2.2.2.1], fun i _ => by rw [b.2.2.2.2.2.2.2.1], fun i hi => by rw [b.1]; exact pk_un hi, fun i _ => by rw [b.2.2.2.2.2.2.2.2.1], fun i _ => by rw [b.2.2.2.2.2.2.2.2.2]⟩, b.1, b.2⟩
def pu_QS_held (z : PlanT) (y : PlanT) (N : Nat) (x : Int32) : Prop := (pu_PQ z y) ∧ (pu_UQ N (pl_riders z) (pl_riders y)) ∧ (qr_held (pl_riders y) = upd (qr_held (pl_riders z)) N x) ∧ (qr_name (pl_riders y) = qr_name (pl_riders z)) ∧ (qr_on (pl_riders y) = qr_on (pl_riders z)) ∧ (qr_off (pl_riders y) = qr_off (pl_riders z)) ∧ (qr_rule (pl_riders y) = qr_rule (pl_riders z)) ∧ (qr_looks (pl_riders y) = qr_looks (pl_riders z)) ∧ (qr_age (pl_riders y) = qr_age (pl_riders z)) ∧ (qr_hasBag (pl_riders y) = qr_hasBag (pl_riders z)) ∧ (qr_isProud (pl_riders y) = qr_isProud (pl_riders z)) ∧ (qr_friends (pl_riders y) = qr_friends (pl_riders z))
theorem pu_QS_held.pq {z : PlanT} {y : PlanT} {N : Nat} {x : Int32} (h : pu_QS_held z y N x) : pu_PQ z y := h.1
theorem pu_QS_held.uq {z : PlanT} {y : PlanT} {N : Nat} {x : Int32} (h : pu_QS_held z y N x) : pu_UQ N (pl_riders z) (pl_riders y) := h.2.1
theorem pu_QS_held.v {z : PlanT} {y : PlanT} {N : Nat} {x : Int32} (h : pu_QS_held z y N x) : qr_held (pl_riders y) = upd (qr_held (pl_riders z)) N x := h.2.2.1
theorem pu_QS_held.gname {z : PlanT} {y : PlanT} {N : Nat} {x : Int32} (h : pu_QS_held z y N x) : qr_name (pl_riders y) = qr_name (pl_riders z) := h.2.2.2.1
theorem pu_QS_held.gon {z : PlanT} {y : PlanT} {N : Nat} {x : Int32} (h : pu_QS_held z y N x) : qr_on (pl_riders y) = qr_on (pl_riders z) := h.2.2.2.2.1
theorem pu_QS_held.goff {z : PlanT} {y : PlanT} {N : Nat} {x : Int32} (h : pu_QS_held z y N x) : qr_off (pl_riders y) = qr_off (pl_riders z) := h.2.2.2.2.2.1
theorem pu_QS_held.grule {z : PlanT} {y : PlanT} {N : Nat} {x : Int32} (h : pu_QS_held z y N x) : qr_rule (pl_riders y) = qr_rule (pl_riders z) := h.2.2.2.2.2.2.1
theorem pu_QS_held.glooks {z : PlanT} {y : PlanT} {N : Nat} {x : Int32} (h : pu_QS_held z y N x) : qr_looks (pl_riders y) = qr_looks (pl_riders z) := h.2.2.2.2.2.2.2.1
theorem pu_QS_held.gage {z : PlanT} {y : PlanT} {N : Nat} {x : Int32} (h : pu_QS_held z y N x) : qr_age (pl_riders y) = qr_age (pl_riders z) := h.2.2.2.2.2.2.2.2.1
theorem pu_QS_held.ghasBag {z : PlanT} {y : PlanT} {N : Nat} {x : Int32} (h : pu_QS_held z y N x) : qr_hasBag (pl_riders y) = qr_hasBag (pl_riders z) := h.2.2.2.2.2.2.2.2.2.1
theorem pu_QS_held.gisProud {z : PlanT} {y : PlanT} {N : Nat} {x : Int32} (h : pu_QS_held z y N x) : qr_isProud (pl_riders y) = qr_isProud (pl_riders z) := h.2.2.2.2.2.2.2.2.2.2.1
theorem pu_QS_held.gfriends {z : PlanT} {y : PlanT} {N : Nat} {x : Int32} (h : pu_QS_held z y N x) : qr_friends (pl_riders y) = qr_friends (pl_riders z) := h.2.2.2.2.2.2.2.2.2.2.2
theorem pu_Qs_held (z : PlanT) (N : Nat) (x : Int32) : pu_QS_held z (pl_set_riders z (qr_set_held (pl_riders z) (upd (qr_held (pl_riders z)) N x))) N x := by
  have a := pu_PQ1 z (qr_set_held (pl_riders z) (upd (qr_held (pl_riders z)) N x))
  generalize pl_set_riders z (qr_set_held (pl_riders z) (upd (qr_held (pl_riders z)) N x)) = y at a ⊢
  have s : ∀ (q : RidersT) (k : Nat → Int32), qr_held (qr_set_held q k) = k ∧ qr_name (qr_set_held q k) = qr_name q ∧ qr_on (qr_set_held q k) = qr_on q ∧ qr_off (qr_set_held q k) = qr_off q ∧ qr_rule (qr_set_held q k) = qr_rule q ∧ qr_looks (qr_set_held q k) = qr_looks q ∧ qr_age (qr_set_held q k) = qr_age q ∧ qr_hasBag (qr_set_held q k) = qr_hasBag q ∧ qr_isProud (qr_set_held q k) = qr_isProud q ∧ qr_friends (qr_set_held q k) = qr_friends q := fun q k => ⟨rfl, rfl, rfl, rfl, rfl, rfl, rfl, rfl, rfl, rfl⟩
  obtain ⟨a1, a2⟩ := a
  have b := s (pl_riders z) (upd (qr_held (pl_riders z)) N x)
  rw [← a2] at b
  exact ⟨a1, ⟨fun i _ => by rw [b.2.1], fun i _ => by rw [b.2.2.1], fun i _ => by rw [b.2.2.2.1], fun i _ => by rw [b.2.2.2.2.1], fun i _ => by rw [b.2.2.2.2.2.1], fun i _ => by rw [b.2.2.2.2.2.2.1], fun i _ => by rw [b.2.2.2.2.2.2.2.1], fun i _ => by rw [b.2.2.2.2.2.2.2.2.1], fun i hi => by rw [b.1]; exact pk_un hi, fun i _ => by rw [b.2.2.2.2.2.2.2.2.2]⟩, b.1, b.2⟩
def pu_QS_friends (z : PlanT) (y : PlanT) (N : Nat) (x : Int32) : Prop := (pu_PQ z y) ∧ (pu_UQ N (pl_riders z) (pl_riders y)) ∧ (qr_friends (pl_riders y) = upd (qr_friends (pl_riders z)) N x) ∧ (qr_name (pl_riders y) = qr_name (pl_riders z)) ∧ (qr_on (pl_riders y) = qr_on (pl_riders z)) ∧ (qr_off (pl_riders y) = qr_off (pl_riders z)) ∧ (qr_rule (pl_riders y) = qr_rule (pl_riders z)) ∧ (qr_looks (pl_riders y) = qr_looks (pl_riders z)) ∧ (qr_age (pl_riders y) = qr_age (pl_riders z)) ∧ (qr_hasBag (pl_riders y) = qr_hasBag (pl_riders z)) ∧ (qr_isProud (pl_riders y) = qr_isProud (pl_riders z)) ∧ (qr_held (pl_riders y) = qr_held (pl_riders z))
theorem pu_QS_friends.pq {z : PlanT} {y : PlanT} {N : Nat} {x : Int32} (h : pu_QS_friends z y N x) : pu_PQ z y := h.1
theorem pu_QS_friends.uq {z : PlanT} {y : PlanT} {N : Nat} {x : Int32} (h : pu_QS_friends z y N x) : pu_UQ N (pl_riders z) (pl_riders y) := h.2.1
theorem pu_QS_friends.v {z : PlanT} {y : PlanT} {N : Nat} {x : Int32} (h : pu_QS_friends z y N x) : qr_friends (pl_riders y) = upd (qr_friends (pl_riders z)) N x := h.2.2.1
theorem pu_QS_friends.gname {z : PlanT} {y : PlanT} {N : Nat} {x : Int32} (h : pu_QS_friends z y N x) : qr_name (pl_riders y) = qr_name (pl_riders z) := h.2.2.2.1
theorem pu_QS_friends.gon {z : PlanT} {y : PlanT} {N : Nat} {x : Int32} (h : pu_QS_friends z y N x) : qr_on (pl_riders y) = qr_on (pl_riders z) := h.2.2.2.2.1
theorem pu_QS_friends.goff {z : PlanT} {y : PlanT} {N : Nat} {x : Int32} (h : pu_QS_friends z y N x) : qr_off (pl_riders y) = qr_off (pl_riders z) := h.2.2.2.2.2.1
theorem pu_QS_friends.grule {z : PlanT} {y : PlanT} {N : Nat} {x : Int32} (h : pu_QS_friends z y N x) : qr_rule (pl_riders y) = qr_rule (pl_riders z) := h.2.2.2.2.2.2.1
theorem pu_QS_friends.glooks {z : PlanT} {y : PlanT} {N : Nat} {x : Int32} (h : pu_QS_friends z y N x) : qr_looks (pl_riders y) = qr_looks (pl_riders z) := h.2.2.2.2.2.2.2.1
theorem pu_QS_friends.gage {z : PlanT} {y : PlanT} {N : Nat} {x : Int32} (h : pu_QS_friends z y N x) : qr_age (pl_riders y) = qr_age (pl_riders z) := h.2.2.2.2.2.2.2.2.1
theorem pu_QS_friends.ghasBag {z : PlanT} {y : PlanT} {N : Nat} {x : Int32} (h : pu_QS_friends z y N x) : qr_hasBag (pl_riders y) = qr_hasBag (pl_riders z) := h.2.2.2.2.2.2.2.2.2.1
theorem pu_QS_friends.gisProud {z : PlanT} {y : PlanT} {N : Nat} {x : Int32} (h : pu_QS_friends z y N x) : qr_isProud (pl_riders y) = qr_isProud (pl_riders z) := h.2.2.2.2.2.2.2.2.2.2.1
theorem pu_QS_friends.gheld {z : PlanT} {y : PlanT} {N : Nat} {x : Int32} (h : pu_QS_friends z y N x) : qr_held (pl_riders y) = qr_held (pl_riders z) := h.2.2.2.2.2.2.2.2.2.2.2
theorem pu_Qs_friends (z : PlanT) (N : Nat) (x : Int32) : pu_QS_friends z (pl_set_riders z (qr_set_friends (pl_riders z) (upd (qr_friends (pl_riders z)) N x))) N x := by
  have a := pu_PQ1 z (qr_set_friends (pl_riders z) (upd (qr_friends (pl_riders z)) N x))
  generalize pl_set_riders z (qr_set_friends (pl_riders z) (upd (qr_friends (pl_riders z)) N x)) = y at a ⊢
  have s : ∀ (q : RidersT) (k : Nat → Int32), qr_friends (qr_set_friends q k) = k ∧ qr_name (qr_set_friends q k) = qr_name q ∧ qr_on (qr_set_friends q k) = qr_on q ∧ qr_off (qr_set_friends q k) = qr_off q ∧ qr_rule (qr_set_friends q k) = qr_rule q ∧ qr_looks (qr_set_friends q k) = qr_looks q ∧ qr_age (qr_set_friends q k) = qr_age q ∧ qr_hasBag (qr_set_friends q k) = qr_hasBag q ∧ qr_isProud (qr_set_friends q k) = qr_isProud q ∧ qr_held (qr_set_friends q k) = qr_held q := fun q k => ⟨rfl, rfl, rfl, rfl, rfl, rfl, rfl, rfl, rfl, rfl⟩
  obtain ⟨a1, a2⟩ := a
  have b := s (pl_riders z) (upd (qr_friends (pl_riders z)) N x)
  rw [← a2] at b
  exact ⟨a1, ⟨fun i _ => by rw [b.2.1], fun i _ => by rw [b.2.2.1], fun i _ => by rw [b.2.2.2.1], fun i _ => by rw [b.2.2.2.2.1], fun i _ => by rw [b.2.2.2.2.2.1], fun i _ => by rw [b.2.2.2.2.2.2.1], fun i _ => by rw [b.2.2.2.2.2.2.2.1], fun i _ => by rw [b.2.2.2.2.2.2.2.2.1], fun i _ => by rw [b.2.2.2.2.2.2.2.2.2], fun i hi => by rw [b.1]; exact pk_un hi⟩, b.1, b.2⟩
def pu_BQ (N : Nat) (a : BusT) (b : BusT) (v1 : Int32) (v2 : Int32) (v3 : Int32) (v4 : Int32) (v5 : Int32) (v6 : Int32) (v7 : Int32) : Prop := (pu_BFq a b) ∧ (bu_riders b = nI (N + 1)) ∧ (bu_on b = upd (bu_on a) N v1) ∧ (bu_off b = upd (bu_off a) N v2) ∧ (bu_rule b = upd (bu_rule a) N v3) ∧ (bu_looks b = upd (bu_looks a) N v4) ∧ (bu_age b = upd (bu_age a) N v5) ∧ (bu_holds b = upd (bu_holds a) N (-1)) ∧ (bu_hasBag b = upd (bu_hasBag a) N (vp_nar .boolean v6)) ∧ (bu_isProud b = upd (bu_isProud a) N (vp_nar .boolean v7))
theorem pu_BQ.fr {N : Nat} {a : BusT} {b : BusT} {v1 : Int32} {v2 : Int32} {v3 : Int32} {v4 : Int32} {v5 : Int32} {v6 : Int32} {v7 : Int32} (h : pu_BQ N a b v1 v2 v3 v4 v5 v6 v7) : pu_BFq a b := h.1
theorem pu_BQ.ri {N : Nat} {a : BusT} {b : BusT} {v1 : Int32} {v2 : Int32} {v3 : Int32} {v4 : Int32} {v5 : Int32} {v6 : Int32} {v7 : Int32} (h : pu_BQ N a b v1 v2 v3 v4 v5 v6 v7) : bu_riders b = nI (N + 1) := h.2.1
theorem pu_BQ.bon {N : Nat} {a : BusT} {b : BusT} {v1 : Int32} {v2 : Int32} {v3 : Int32} {v4 : Int32} {v5 : Int32} {v6 : Int32} {v7 : Int32} (h : pu_BQ N a b v1 v2 v3 v4 v5 v6 v7) : bu_on b = upd (bu_on a) N v1 := h.2.2.1
theorem pu_BQ.boff {N : Nat} {a : BusT} {b : BusT} {v1 : Int32} {v2 : Int32} {v3 : Int32} {v4 : Int32} {v5 : Int32} {v6 : Int32} {v7 : Int32} (h : pu_BQ N a b v1 v2 v3 v4 v5 v6 v7) : bu_off b = upd (bu_off a) N v2 := h.2.2.2.1
theorem pu_BQ.brule {N : Nat} {a : BusT} {b : BusT} {v1 : Int32} {v2 : Int32} {v3 : Int32} {v4 : Int32} {v5 : Int32} {v6 : Int32} {v7 : Int32} (h : pu_BQ N a b v1 v2 v3 v4 v5 v6 v7) : bu_rule b = upd (bu_rule a) N v3 := h.2.2.2.2.1
theorem pu_BQ.blooks {N : Nat} {a : BusT} {b : BusT} {v1 : Int32} {v2 : Int32} {v3 : Int32} {v4 : Int32} {v5 : Int32} {v6 : Int32} {v7 : Int32} (h : pu_BQ N a b v1 v2 v3 v4 v5 v6 v7) : bu_looks b = upd (bu_looks a) N v4 := h.2.2.2.2.2.1
theorem pu_BQ.bage {N : Nat} {a : BusT} {b : BusT} {v1 : Int32} {v2 : Int32} {v3 : Int32} {v4 : Int32} {v5 : Int32} {v6 : Int32} {v7 : Int32} (h : pu_BQ N a b v1 v2 v3 v4 v5 v6 v7) : bu_age b = upd (bu_age a) N v5 := h.2.2.2.2.2.2.1
theorem pu_BQ.bholds {N : Nat} {a : BusT} {b : BusT} {v1 : Int32} {v2 : Int32} {v3 : Int32} {v4 : Int32} {v5 : Int32} {v6 : Int32} {v7 : Int32} (h : pu_BQ N a b v1 v2 v3 v4 v5 v6 v7) : bu_holds b = upd (bu_holds a) N (-1) := h.2.2.2.2.2.2.2.1
theorem pu_BQ.bhasBag {N : Nat} {a : BusT} {b : BusT} {v1 : Int32} {v2 : Int32} {v3 : Int32} {v4 : Int32} {v5 : Int32} {v6 : Int32} {v7 : Int32} (h : pu_BQ N a b v1 v2 v3 v4 v5 v6 v7) : bu_hasBag b = upd (bu_hasBag a) N (vp_nar .boolean v6) := h.2.2.2.2.2.2.2.2.1
theorem pu_BQ.bisProud {N : Nat} {a : BusT} {b : BusT} {v1 : Int32} {v2 : Int32} {v3 : Int32} {v4 : Int32} {v5 : Int32} {v6 : Int32} {v7 : Int32} (h : pu_BQ N a b v1 v2 v3 v4 v5 v6 v7) : bu_isProud b = upd (bu_isProud a) N (vp_nar .boolean v7) := h.2.2.2.2.2.2.2.2.2
theorem pu_Bs_on (b : BusT) (x : Nat → Int32) : pu_BFq b (bu_set_on b x) ∧ bu_on (bu_set_on b x) = x ∧ bu_off (bu_set_on b x) = bu_off b ∧ bu_rule (bu_set_on b x) = bu_rule b ∧ bu_looks (bu_set_on b x) = bu_looks b ∧ bu_age (bu_set_on b x) = bu_age b ∧ bu_holds (bu_set_on b x) = bu_holds b ∧ bu_hasBag (bu_set_on b x) = bu_hasBag b ∧ bu_isProud (bu_set_on b x) = bu_isProud b ∧ bu_riders (bu_set_on b x) = bu_riders b := ⟨⟨rfl, rfl, rfl, rfl, rfl, rfl, rfl, rfl, rfl, rfl, rfl, rfl, rfl, rfl, rfl, rfl, rfl⟩, rfl, rfl, rfl, rfl, rfl, rfl, rfl, rfl, rfl⟩
theorem pu_Bs_off (b : BusT) (x : Nat → Int32) : pu_BFq b (bu_set_off b x) ∧ bu_off (bu_set_off b x) = x ∧ bu_on (bu_set_off b x) = bu_on b ∧ bu_rule (bu_set_off b x) = bu_rule b ∧ bu_looks (bu_set_off b x) = bu_looks b ∧ bu_age (bu_set_off b x) = bu_age b ∧ bu_holds (bu_set_off b x) = bu_holds b ∧ bu_hasBag (bu_set_off b x) = bu_hasBag b ∧ bu_isProud (bu_set_off b x) = bu_isProud b ∧ bu_riders (bu_set_off b x) = bu_riders b := ⟨⟨rfl, rfl, rfl, rfl, rfl, rfl, rfl, rfl, rfl, rfl, rfl, rfl, rfl, rfl, rfl, rfl, rfl⟩, rfl, rfl, rfl, rfl, rfl, rfl, rfl, rfl, rfl⟩
theorem pu_Bs_rule (b : BusT) (x : Nat → Int32) : pu_BFq b (bu_set_rule b x) ∧ bu_rule (bu_set_rule b x) = x ∧ bu_on (bu_set_rule b x) = bu_on b ∧ bu_off (bu_set_rule b x) = bu_off b ∧ bu_looks (bu_set_rule b x) = bu_looks b ∧ bu_age (bu_set_rule b x) = bu_age b ∧ bu_holds (bu_set_rule b x) = bu_holds b ∧ bu_hasBag (bu_set_rule b x) = bu_hasBag b ∧ bu_isProud (bu_set_rule b x) = bu_isProud b ∧ bu_riders (bu_set_rule b x) = bu_riders b := ⟨⟨rfl, rfl, rfl, rfl, rfl, rfl, rfl, rfl, rfl, rfl, rfl, rfl, rfl, rfl, rfl, rfl, rfl⟩, rfl, rfl, rfl, rfl, rfl, rfl, rfl, rfl, rfl⟩
theorem pu_Bs_looks (b : BusT) (x : Nat → Int32) : pu_BFq b (bu_set_looks b x) ∧ bu_looks (bu_set_looks b x) = x ∧ bu_on (bu_set_looks b x) = bu_on b ∧ bu_off (bu_set_looks b x) = bu_off b ∧ bu_rule (bu_set_looks b x) = bu_rule b ∧ bu_age (bu_set_looks b x) = bu_age b ∧ bu_holds (bu_set_looks b x) = bu_holds b ∧ bu_hasBag (bu_set_looks b x) = bu_hasBag b ∧ bu_isProud (bu_set_looks b x) = bu_isProud b ∧ bu_riders (bu_set_looks b x) = bu_riders b := ⟨⟨rfl, rfl, rfl, rfl, rfl, rfl, rfl, rfl, rfl, rfl, rfl, rfl, rfl, rfl, rfl, rfl, rfl⟩, rfl, rfl, rfl, rfl, rfl, rfl, rfl, rfl, rfl⟩
theorem pu_Bs_age (b : BusT) (x : Nat → Int32) : pu_BFq b (bu_set_age b x) ∧ bu_age (bu_set_age b x) = x ∧ bu_on (bu_set_age b x) = bu_on b ∧ bu_off (bu_set_age b x) = bu_off b ∧ bu_rule (bu_set_age b x) = bu_rule b ∧ bu_looks (bu_set_age b x) = bu_looks b ∧ bu_holds (bu_set_age b x) = bu_holds b ∧ bu_hasBag (bu_set_age b x) = bu_hasBag b ∧ bu_isProud (bu_set_age b x) = bu_isProud b ∧ bu_riders (bu_set_age b x) = bu_riders b := ⟨⟨rfl, rfl, rfl, rfl, rfl, rfl, rfl, rfl, rfl, rfl, rfl, rfl, rfl, rfl, rfl, rfl, rfl⟩, rfl, rfl, rfl, rfl, rfl, rfl, rfl, rfl, rfl⟩
theorem pu_Bs_holds (b : BusT) (x : Nat → Int32) : pu_BFq b (bu_set_holds b x) ∧ bu_holds (bu_set_holds b x) = x ∧ bu_on (bu_set_holds b x) = bu_on b ∧ bu_off (bu_set_holds b x) = bu_off b ∧ bu_rule (bu_set_holds b x) = bu_rule b ∧ bu_looks (bu_set_holds b x) = bu_looks b ∧ bu_age (bu_set_holds b x) = bu_age b ∧ bu_hasBag (bu_set_holds b x) = bu_hasBag b ∧ bu_isProud (bu_set_holds b x) = bu_isProud b ∧ bu_riders (bu_set_holds b x) = bu_riders b := ⟨⟨rfl, rfl, rfl, rfl, rfl, rfl, rfl, rfl, rfl, rfl, rfl, rfl, rfl, rfl, rfl, rfl, rfl⟩, rfl, rfl, rfl, rfl, rfl, rfl, rfl, rfl, rfl⟩
theorem pu_Bs_hasBag (b : BusT) (x : Nat → Int32) : pu_BFq b (bu_set_hasBag b x) ∧ bu_hasBag (bu_set_hasBag b x) = x ∧ bu_on (bu_set_hasBag b x) = bu_on b ∧ bu_off (bu_set_hasBag b x) = bu_off b ∧ bu_rule (bu_set_hasBag b x) = bu_rule b ∧ bu_looks (bu_set_hasBag b x) = bu_looks b ∧ bu_age (bu_set_hasBag b x) = bu_age b ∧ bu_holds (bu_set_hasBag b x) = bu_holds b ∧ bu_isProud (bu_set_hasBag b x) = bu_isProud b ∧ bu_riders (bu_set_hasBag b x) = bu_riders b := ⟨⟨rfl, rfl, rfl, rfl, rfl, rfl, rfl, rfl, rfl, rfl, rfl, rfl, rfl, rfl, rfl, rfl, rfl⟩, rfl, rfl, rfl, rfl, rfl, rfl, rfl, rfl, rfl⟩
theorem pu_Bs_isProud (b : BusT) (x : Nat → Int32) : pu_BFq b (bu_set_isProud b x) ∧ bu_isProud (bu_set_isProud b x) = x ∧ bu_on (bu_set_isProud b x) = bu_on b ∧ bu_off (bu_set_isProud b x) = bu_off b ∧ bu_rule (bu_set_isProud b x) = bu_rule b ∧ bu_looks (bu_set_isProud b x) = bu_looks b ∧ bu_age (bu_set_isProud b x) = bu_age b ∧ bu_holds (bu_set_isProud b x) = bu_holds b ∧ bu_hasBag (bu_set_isProud b x) = bu_hasBag b ∧ bu_riders (bu_set_isProud b x) = bu_riders b := ⟨⟨rfl, rfl, rfl, rfl, rfl, rfl, rfl, rfl, rfl, rfl, rfl, rfl, rfl, rfl, rfl, rfl, rfl⟩, rfl, rfl, rfl, rfl, rfl, rfl, rfl, rfl, rfl⟩
theorem pu_Bs_riders (b : BusT) (x : Int32) : pu_BFq b (bu_set_riders b x) ∧ bu_riders (bu_set_riders b x) = x ∧ bu_on (bu_set_riders b x) = bu_on b ∧ bu_off (bu_set_riders b x) = bu_off b ∧ bu_rule (bu_set_riders b x) = bu_rule b ∧ bu_looks (bu_set_riders b x) = bu_looks b ∧ bu_age (bu_set_riders b x) = bu_age b ∧ bu_holds (bu_set_riders b x) = bu_holds b ∧ bu_hasBag (bu_set_riders b x) = bu_hasBag b ∧ bu_isProud (bu_set_riders b x) = bu_isProud b := ⟨⟨rfl, rfl, rfl, rfl, rfl, rfl, rfl, rfl, rfl, rfl, rfl, rfl, rfl, rfl, rfl, rfl, rfl⟩, rfl, rfl, rfl, rfl, rfl, rfl, rfl, rfl, rfl⟩
theorem pu_busPut (b : BusT) {mo : MOT} (ns : ¬ mo_sort mo = 5) {N : Nat} (n8 : N < 8) (hr : bu_riders b = nI N) (v1 v2 v3 v4 v5 v6 v7 : Int32) : ∃ b', f_X12_readRider_b102 tape v1 v2 v3 v4 v5 v6 v7 mo b = some (mo, b') ∧ pu_BQ N b b' v1 v2 v3 v4 v5 v6 v7 := by
  have in8 : kb_in? (nI N) 8 := pu_inn n8 (by omega)
  have cl : (nI N).toNatClampNeg = N := nI_clamp (by omega)
  rw [f_X12_readRider_b102, if_neg ns, hr, if_pos in8, cl]
  have h1 := pu_Bs_on b (upd (bu_on b) N v1)
  generalize bu_set_on b (upd (bu_on b) N v1) = b1 at h1 ⊢
  rw [f_X12_readRider_b131, if_pos in8, cl]
  have h2 := pu_Bs_off b1 (upd (bu_off b1) N v2)
  generalize bu_set_off b1 (upd (bu_off b1) N v2) = b2 at h2 ⊢
  rw [f_X12_readRider_b142, if_pos in8, cl]
  have h3 := pu_Bs_rule b2 (upd (bu_rule b2) N v3)
  generalize bu_set_rule b2 (upd (bu_rule b2) N v3) = b3 at h3 ⊢
  rw [f_X12_readRider_b153, if_pos in8, cl]
  have h4 := pu_Bs_looks b3 (upd (bu_looks b3) N v4)
  generalize bu_set_looks b3 (upd (bu_looks b3) N v4) = b4 at h4 ⊢
  rw [f_X12_readRider_b165, if_pos in8, cl]
  have h5 := pu_Bs_age b4 (upd (bu_age b4) N v5)
  generalize bu_set_age b4 (upd (bu_age b4) N v5) = b5 at h5 ⊢
  rw [f_X12_readRider_b177, if_pos in8, cl]
  have h6 := pu_Bs_holds b5 (upd (bu_holds b5) N (-1))
  generalize bu_set_holds b5 (upd (bu_holds b5) N (-1)) = b6 at h6 ⊢
  rw [f_X12_readRider_b188, if_pos in8, cl]
  have h7 := pu_Bs_hasBag b6 (upd (bu_hasBag b6) N (vp_nar .boolean v6))
  generalize bu_set_hasBag b6 (upd (bu_hasBag b6) N (vp_nar .boolean v6)) = b7 at h7 ⊢
  rw [f_X12_readRider_b200, if_pos in8, cl]
  have h8 := pu_Bs_isProud b7 (upd (bu_isProud b7) N (vp_nar .boolean v7))
  generalize bu_set_isProud b7 (upd (bu_isProud b7) N (vp_nar .boolean v7)) = b8 at h8 ⊢
  have r8 : bu_riders b8 = nI N := h8.2.2.2.2.2.2.2.2.2.trans (h7.2.2.2.2.2.2.2.2.2.trans (h6.2.2.2.2.2.2.2.2.2.trans (h5.2.2.2.2.2.2.2.2.2.trans (h4.2.2.2.2.2.2.2.2.2.trans (h3.2.2.2.2.2.2.2.2.2.trans (h2.2.2.2.2.2.2.2.2.2.trans (h1.2.2.2.2.2.2.2.2.2.trans hr)))))))
  rw [f_X12_readRider_b212, f_X12_readRider_b225, r8, nI_1]
  have h9 := pu_Bs_riders b8 (nI (N + 1))
  generalize bu_set_riders b8 (nI (N + 1)) = b9 at h9 ⊢
  exact ⟨b9, rfl, ⟨((((((((h1.1).trans h2.1).trans h3.1).trans h4.1).trans h5.1).trans h6.1).trans h7.1).trans h8.1).trans h9.1, h9.2.1, by rw [h9.2.2.1, h8.2.2.1, h7.2.2.1, h6.2.2.1, h5.2.2.1, h4.2.2.1, h3.2.2.1, h2.2.2.1, h1.2.1], by rw [h9.2.2.2.1, h8.2.2.2.1, h7.2.2.2.1, h6.2.2.2.1, h5.2.2.2.1, h4.2.2.2.1, h3.2.2.2.1, h2.2.1, h1.2.2.1], by rw [h9.2.2.2.2.1, h8.2.2.2.2.1, h7.2.2.2.2.1, h6.2.2.2.2.1, h5.2.2.2.2.1, h4.2.2.2.2.1, h3.2.1, h2.2.2.2.1, h1.2.2.2.1], by rw [h9.2.2.2.2.2.1, h8.2.2.2.2.2.1, h7.2.2.2.2.2.1, h6.2.2.2.2.2.1, h5.2.2.2.2.2.1, h4.2.1, h3.2.2.2.2.1, h2.2.2.2.2.1, h1.2.2.2.2.1], by rw [h9.2.2.2.2.2.2.1, h8.2.2.2.2.2.2.1, h7.2.2.2.2.2.2.1, h6.2.2.2.2.2.2.1, h5.2.1, h4.2.2.2.2.2.1, h3.2.2.2.2.2.1, h2.2.2.2.2.2.1, h1.2.2.2.2.2.1], by rw [h9.2.2.2.2.2.2.2.1, h8.2.2.2.2.2.2.2.1, h7.2.2.2.2.2.2.2.1, h6.2.1, h5.2.2.2.2.2.2.1, h4.2.2.2.2.2.2.1, h3.2.2.2.2.2.2.1, h2.2.2.2.2.2.2.1, h1.2.2.2.2.2.2.1], by rw [h9.2.2.2.2.2.2.2.2.1, h8.2.2.2.2.2.2.2.2.1, h7.2.1, h6.2.2.2.2.2.2.2.1, h5.2.2.2.2.2.2.2.1, h4.2.2.2.2.2.2.2.1, h3.2.2.2.2.2.2.2.1, h2.2.2.2.2.2.2.2.1, h1.2.2.2.2.2.2.2.1], by rw [h9.2.2.2.2.2.2.2.2.2, h8.2.1, h7.2.2.2.2.2.2.2.2.1, h6.2.2.2.2.2.2.2.2.1, h5.2.2.2.2.2.2.2.2.1, h4.2.2.2.2.2.2.2.2.1, h3.2.2.2.2.2.2.2.2.1, h2.2.2.2.2.2.2.2.2.1, h1.2.2.2.2.2.2.2.2.1]⟩⟩

end QB
