/-! the cabin's seats; names that are fresh or known; what a step changes -/
def pu_BFc (a : BusT) (b : BusT) : Prop := (bu_rules b = bu_rules a) ∧ (bu_riders b = bu_riders a) ∧ (bu_friends b = bu_friends a) ∧ (bu_holders b = bu_holders a) ∧ (bu_names b = bu_names a) ∧ (bu_waysMany b = bu_waysMany a) ∧ (bu_way b = bu_way a) ∧ (bu_on b = bu_on a) ∧ (bu_off b = bu_off a) ∧ (bu_rule b = bu_rule a) ∧ (bu_looks b = bu_looks a) ∧ (bu_age b = bu_age a) ∧ (bu_holds b = bu_holds a) ∧ (bu_hasBag b = bu_hasBag a) ∧ (bu_isProud b = bu_isProud a) ∧ (bu_friendA b = bu_friendA a) ∧ (bu_friendB b = bu_friendB a) ∧ (bu_name b = bu_name a) ∧ (bu_nameSort b = bu_nameSort a) ∧ (bu_nameNumber b = bu_nameNumber a)
theorem pu_BFc.frules {a : BusT} {b : BusT} (h : pu_BFc a b) : bu_rules b = bu_rules a := h.1
theorem pu_BFc.friders {a : BusT} {b : BusT} (h : pu_BFc a b) : bu_riders b = bu_riders a := h.2.1
theorem pu_BFc.ffriends {a : BusT} {b : BusT} (h : pu_BFc a b) : bu_friends b = bu_friends a := h.2.2.1
theorem pu_BFc.fholders {a : BusT} {b : BusT} (h : pu_BFc a b) : bu_holders b = bu_holders a := h.2.2.2.1
theorem pu_BFc.fnames {a : BusT} {b : BusT} (h : pu_BFc a b) : bu_names b = bu_names a := h.2.2.2.2.1
theorem pu_BFc.fwaysMany {a : BusT} {b : BusT} (h : pu_BFc a b) : bu_waysMany b = bu_waysMany a := h.2.2.2.2.2.1
theorem pu_BFc.fway {a : BusT} {b : BusT} (h : pu_BFc a b) : bu_way b = bu_way a := h.2.2.2.2.2.2.1
theorem pu_BFc.fon {a : BusT} {b : BusT} (h : pu_BFc a b) : bu_on b = bu_on a := h.2.2.2.2.2.2.2.1
theorem pu_BFc.foff {a : BusT} {b : BusT} (h : pu_BFc a b) : bu_off b = bu_off a := h.2.2.2.2.2.2.2.2.1
theorem pu_BFc.frule {a : BusT} {b : BusT} (h : pu_BFc a b) : bu_rule b = bu_rule a := h.2.2.2.2.2.2.2.2.2.1
theorem pu_BFc.flooks {a : BusT} {b : BusT} (h : pu_BFc a b) : bu_looks b = bu_looks a := h.2.2.2.2.2.2.2.2.2.2.1
theorem pu_BFc.fage {a : BusT} {b : BusT} (h : pu_BFc a b) : bu_age b = bu_age a := h.2.2.2.2.2.2.2.2.2.2.2.1
theorem pu_BFc.fholds {a : BusT} {b : BusT} (h : pu_BFc a b) : bu_holds b = bu_holds a := h.2.2.2.2.2.2.2.2.2.2.2.2.1
theorem pu_BFc.fhasBag {a : BusT} {b : BusT} (h : pu_BFc a b) : bu_hasBag b = bu_hasBag a := h.2.2.2.2.2.2.2.2.2.2.2.2.2.1
theorem pu_BFc.fisProud {a : BusT} {b : BusT} (h : pu_BFc a b) : bu_isProud b = bu_isProud a := h.2.2.2.2.2.2.2.2.2.2.2.2.2.2.1
theorem pu_BFc.ffriendA {a : BusT} {b : BusT} (h : pu_BFc a b) : bu_friendA b = bu_friendA a := h.2.2.2.2.2.2.2.2.2.2.2.2.2.2.2.1
theorem pu_BFc.ffriendB {a : BusT} {b : BusT} (h : pu_BFc a b) : bu_friendB b = bu_friendB a := h.2.2.2.2.2.2.2.2.2.2.2.2.2.2.2.2.1
theorem pu_BFc.fname {a : BusT} {b : BusT} (h : pu_BFc a b) : bu_name b = bu_name a := h.2.2.2.2.2.2.2.2.2.2.2.2.2.2.2.2.2.1
theorem pu_BFc.fnameSort {a : BusT} {b : BusT} (h : pu_BFc a b) : bu_nameSort b = bu_nameSort a := h.2.2.2.2.2.2.2.2.2.2.2.2.2.2.2.2.2.2.1
theorem pu_BFc.fnameNumber {a : BusT} {b : BusT} (h : pu_BFc a b) : bu_nameNumber b = bu_nameNumber a := h.2.2.2.2.2.2.2.2.2.2.2.2.2.2.2.2.2.2.2
theorem pu_BFc.rf (a : BusT) : pu_BFc a a := ⟨rfl, rfl, rfl, rfl, rfl, rfl, rfl, rfl, rfl, rfl, rfl, rfl, rfl, rfl, rfl, rfl, rfl, rfl, rfl, rfl⟩
theorem pu_BFc.trans {a b d : BusT} (h : pu_BFc a b) (k : pu_BFc b d) : pu_BFc a d := ⟨k.frules.trans h.frules, k.friders.trans h.friders, k.ffriends.trans h.ffriends, k.fholders.trans h.fholders, k.fnames.trans h.fnames, k.fwaysMany.trans h.fwaysMany, k.fway.trans h.fway, k.fon.trans h.fon, k.foff.trans h.foff, k.frule.trans h.frule, k.flooks.trans h.flooks, k.fage.trans h.fage, k.fholds.trans h.fholds, k.fhasBag.trans h.fhasBag, k.fisProud.trans h.fisProud, k.ffriendA.trans h.ffriendA, k.ffriendB.trans h.ffriendB, k.fname.trans h.fname, k.fnameSort.trans h.fnameSort, k.fnameNumber.trans h.fnameNumber⟩
def pu_BFn (a : BusT) (b : BusT) : Prop := (bu_rows b = bu_rows a) ∧ (bu_form b = bu_form a) ∧ (bu_door b = bu_door a) ∧ (bu_pace b = bu_pace a) ∧ (bu_rise b = bu_rise a) ∧ (bu_sun b = bu_sun a) ∧ (bu_rules b = bu_rules a) ∧ (bu_riders b = bu_riders a) ∧ (bu_friends b = bu_friends a) ∧ (bu_holders b = bu_holders a) ∧ (bu_waysMany b = bu_waysMany a) ∧ (bu_way b = bu_way a) ∧ (bu_on b = bu_on a) ∧ (bu_off b = bu_off a) ∧ (bu_rule b = bu_rule a) ∧ (bu_looks b = bu_looks a) ∧ (bu_age b = bu_age a) ∧ (bu_holds b = bu_holds a) ∧ (bu_hasBag b = bu_hasBag a) ∧ (bu_isProud b = bu_isProud a) ∧ (bu_friendA b = bu_friendA a) ∧ (bu_friendB b = bu_friendB a)
theorem pu_BFn.frows {a : BusT} {b : BusT} (h : pu_BFn a b) : bu_rows b = bu_rows a := h.1
theorem pu_BFn.fform {a : BusT} {b : BusT} (h : pu_BFn a b) : bu_form b = bu_form a := h.2.1
theorem pu_BFn.fdoor {a : BusT} {b : BusT} (h : pu_BFn a b) : bu_door b = bu_door a := h.2.2.1
theorem pu_BFn.fpace {a : BusT} {b : BusT} (h : pu_BFn a b) : bu_pace b = bu_pace a := h.2.2.2.1
theorem pu_BFn.frise {a : BusT} {b : BusT} (h : pu_BFn a b) : bu_rise b = bu_rise a := h.2.2.2.2.1
theorem pu_BFn.fsun {a : BusT} {b : BusT} (h : pu_BFn a b) : bu_sun b = bu_sun a := h.2.2.2.2.2.1
theorem pu_BFn.frules {a : BusT} {b : BusT} (h : pu_BFn a b) : bu_rules b = bu_rules a := h.2.2.2.2.2.2.1
theorem pu_BFn.friders {a : BusT} {b : BusT} (h : pu_BFn a b) : bu_riders b = bu_riders a := h.2.2.2.2.2.2.2.1
theorem pu_BFn.ffriends {a : BusT} {b : BusT} (h : pu_BFn a b) : bu_friends b = bu_friends a := h.2.2.2.2.2.2.2.2.1
theorem pu_BFn.fholders {a : BusT} {b : BusT} (h : pu_BFn a b) : bu_holders b = bu_holders a := h.2.2.2.2.2.2.2.2.2.1
theorem pu_BFn.fwaysMany {a : BusT} {b : BusT} (h : pu_BFn a b) : bu_waysMany b = bu_waysMany a := h.2.2.2.2.2.2.2.2.2.2.1
theorem pu_BFn.fway {a : BusT} {b : BusT} (h : pu_BFn a b) : bu_way b = bu_way a := h.2.2.2.2.2.2.2.2.2.2.2.1
theorem pu_BFn.fon {a : BusT} {b : BusT} (h : pu_BFn a b) : bu_on b = bu_on a := h.2.2.2.2.2.2.2.2.2.2.2.2.1
theorem pu_BFn.foff {a : BusT} {b : BusT} (h : pu_BFn a b) : bu_off b = bu_off a := h.2.2.2.2.2.2.2.2.2.2.2.2.2.1
theorem pu_BFn.frule {a : BusT} {b : BusT} (h : pu_BFn a b) : bu_rule b = bu_rule a := h.2.2.2.2.2.2.2.2.2.2.2.2.2.2.1
theorem pu_BFn.flooks {a : BusT} {b : BusT} (h : pu_BFn a b) : bu_looks b = bu_looks a := h.2.2.2.2.2.2.2.2.2.2.2.2.2.2.2.1
theorem pu_BFn.fage {a : BusT} {b : BusT} (h : pu_BFn a b) : bu_age b = bu_age a := h.2.2.2.2.2.2.2.2.2.2.2.2.2.2.2.2.1
theorem pu_BFn.fholds {a : BusT} {b : BusT} (h : pu_BFn a b) : bu_holds b = bu_holds a := h.2.2.2.2.2.2.2.2.2.2.2.2.2.2.2.2.2.1
theorem pu_BFn.fhasBag {a : BusT} {b : BusT} (h : pu_BFn a b) : bu_hasBag b = bu_hasBag a := h.2.2.2.2.2.2.2.2.2.2.2.2.2.2.2.2.2.2.1
theorem pu_BFn.fisProud {a : BusT} {b : BusT} (h : pu_BFn a b) : bu_isProud b = bu_isProud a := h.2.2.2.2.2.2.2.2.2.2.2.2.2.2.2.2.2.2.2.1
theorem pu_BFn.ffriendA {a : BusT} {b : BusT} (h : pu_BFn a b) : bu_friendA b = bu_friendA a := h.2.2.2.2.2.2.2.2.2.2.2.2.2.2.2.2.2.2.2.2.1
theorem pu_BFn.ffriendB {a : BusT} {b : BusT} (h : pu_BFn a b) : bu_friendB b = bu_friendB a := h.2.2.2.2.2.2.2.2.2.2.2.2.2.2.2.2.2.2.2.2.2
theorem pu_BFn.rf (a : BusT) : pu_BFn a a := ⟨rfl, rfl, rfl, rfl, rfl, rfl, rfl, rfl, rfl, rfl, rfl, rfl, rfl, rfl, rfl, rfl, rfl, rfl, rfl, rfl, rfl, rfl⟩
theorem pu_BFn.trans {a b d : BusT} (h : pu_BFn a b) (k : pu_BFn b d) : pu_BFn a d := ⟨k.frows.trans h.frows, k.fform.trans h.fform, k.fdoor.trans h.fdoor, k.fpace.trans h.fpace, k.frise.trans h.frise, k.fsun.trans h.fsun, k.frules.trans h.frules, k.friders.trans h.friders, k.ffriends.trans h.ffriends, k.fholders.trans h.fholders, k.fwaysMany.trans h.fwaysMany, k.fway.trans h.fway, k.fon.trans h.fon, k.foff.trans h.foff, k.frule.trans h.frule, k.flooks.trans h.flooks, k.fage.trans h.fage, k.fholds.trans h.fholds, k.fhasBag.trans h.fhasBag, k.fisProud.trans h.fisProud, k.ffriendA.trans h.ffriendA, k.ffriendB.trans h.ffriendB⟩
def pu_BFr (a : BusT) (b : BusT) : Prop := (bu_rows b = bu_rows a) ∧ (bu_form b = bu_form a) ∧ (bu_door b = bu_door a) ∧ (bu_pace b = bu_pace a) ∧ (bu_rise b = bu_rise a) ∧ (bu_sun b = bu_sun a) ∧ (bu_riders b = bu_riders a) ∧ (bu_friends b = bu_friends a) ∧ (bu_holders b = bu_holders a) ∧ (bu_names b = bu_names a) ∧ (bu_on b = bu_on a) ∧ (bu_off b = bu_off a) ∧ (bu_rule b = bu_rule a) ∧ (bu_looks b = bu_looks a) ∧ (bu_age b = bu_age a) ∧ (bu_holds b = bu_holds a) ∧ (bu_hasBag b = bu_hasBag a) ∧ (bu_isProud b = bu_isProud a) ∧ (bu_friendA b = bu_friendA a) ∧ (bu_friendB b = bu_friendB a) ∧ (bu_name b = bu_name a) ∧ (bu_nameSort b = bu_nameSort a) ∧ (bu_nameNumber b = bu_nameNumber a)
theorem pu_BFr.frows {a : BusT} {b : BusT} (h : pu_BFr a b) : bu_rows b = bu_rows a := h.1
theorem pu_BFr.fform {a : BusT} {b : BusT} (h : pu_BFr a b) : bu_form b = bu_form a := h.2.1
theorem pu_BFr.fdoor {a : BusT} {b : BusT} (h : pu_BFr a b) : bu_door b = bu_door a := h.2.2.1
theorem pu_BFr.fpace {a : BusT} {b : BusT} (h : pu_BFr a b) : bu_pace b = bu_pace a := h.2.2.2.1
theorem pu_BFr.frise {a : BusT} {b : BusT} (h : pu_BFr a b) : bu_rise b = bu_rise a := h.2.2.2.2.1
theorem pu_BFr.fsun {a : BusT} {b : BusT} (h : pu_BFr a b) : bu_sun b = bu_sun a := h.2.2.2.2.2.1
theorem pu_BFr.friders {a : BusT} {b : BusT} (h : pu_BFr a b) : bu_riders b = bu_riders a := h.2.2.2.2.2.2.1
theorem pu_BFr.ffriends {a : BusT} {b : BusT} (h : pu_BFr a b) : bu_friends b = bu_friends a := h.2.2.2.2.2.2.2.1
theorem pu_BFr.fholders {a : BusT} {b : BusT} (h : pu_BFr a b) : bu_holders b = bu_holders a := h.2.2.2.2.2.2.2.2.1
theorem pu_BFr.fnames {a : BusT} {b : BusT} (h : pu_BFr a b) : bu_names b = bu_names a := h.2.2.2.2.2.2.2.2.2.1
theorem pu_BFr.fon {a : BusT} {b : BusT} (h : pu_BFr a b) : bu_on b = bu_on a := h.2.2.2.2.2.2.2.2.2.2.1
theorem pu_BFr.foff {a : BusT} {b : BusT} (h : pu_BFr a b) : bu_off b = bu_off a := h.2.2.2.2.2.2.2.2.2.2.2.1
theorem pu_BFr.frule {a : BusT} {b : BusT} (h : pu_BFr a b) : bu_rule b = bu_rule a := h.2.2.2.2.2.2.2.2.2.2.2.2.1
theorem pu_BFr.flooks {a : BusT} {b : BusT} (h : pu_BFr a b) : bu_looks b = bu_looks a := h.2.2.2.2.2.2.2.2.2.2.2.2.2.1
theorem pu_BFr.fage {a : BusT} {b : BusT} (h : pu_BFr a b) : bu_age b = bu_age a := h.2.2.2.2.2.2.2.2.2.2.2.2.2.2.1
theorem pu_BFr.fholds {a : BusT} {b : BusT} (h : pu_BFr a b) : bu_holds b = bu_holds a := h.2.2.2.2.2.2.2.2.2.2.2.2.2.2.2.1
theorem pu_BFr.fhasBag {a : BusT} {b : BusT} (h : pu_BFr a b) : bu_hasBag b = bu_hasBag a := h.2.2.2.2.2.2.2.2.2.2.2.2.2.2.2.2.1
theorem pu_BFr.fisProud {a : BusT} {b : BusT} (h : pu_BFr a b) : bu_isProud b = bu_isProud a := h.2.2.2.2.2.2.2.2.2.2.2.2.2.2.2.2.2.1
theorem pu_BFr.ffriendA {a : BusT} {b : BusT} (h : pu_BFr a b) : bu_friendA b = bu_friendA a := h.2.2.2.2.2.2.2.2.2.2.2.2.2.2.2.2.2.2.1
theorem pu_BFr.ffriendB {a : BusT} {b : BusT} (h : pu_BFr a b) : bu_friendB b = bu_friendB a := h.2.2.2.2.2.2.2.2.2.2.2.2.2.2.2.2.2.2.2.1
theorem pu_BFr.fname {a : BusT} {b : BusT} (h : pu_BFr a b) : bu_name b = bu_name a := h.2.2.2.2.2.2.2.2.2.2.2.2.2.2.2.2.2.2.2.2.1
theorem pu_BFr.fnameSort {a : BusT} {b : BusT} (h : pu_BFr a b) : bu_nameSort b = bu_nameSort a := h.2.2.2.2.2.2.2.2.2.2.2.2.2.2.2.2.2.2.2.2.2.1
theorem pu_BFr.fnameNumber {a : BusT} {b : BusT} (h : pu_BFr a b) : bu_nameNumber b = bu_nameNumber a := h.2.2.2.2.2.2.2.2.2.2.2.2.2.2.2.2.2.2.2.2.2.2
theorem pu_BFr.rf (a : BusT) : pu_BFr a a := ⟨rfl, rfl, rfl, rfl, rfl, rfl, rfl, rfl, rfl, rfl, rfl, rfl, rfl, rfl, rfl, rfl, rfl, rfl, rfl, rfl, rfl, rfl, rfl⟩
theorem pu_BFr.trans {a b d : BusT} (h : pu_BFr a b) (k : pu_BFr b d) : pu_BFr a d := ⟨k.frows.trans h.frows, k.fform.trans h.fform, k.fdoor.trans h.fdoor, k.fpace.trans h.fpace, k.frise.trans h.frise, k.fsun.trans h.fsun, k.friders.trans h.friders, k.ffriends.trans h.ffriends, k.fholders.trans h.fholders, k.fnames.trans h.fnames, k.fon.trans h.fon, k.foff.trans h.foff, k.frule.trans h.frule, k.flooks.trans h.flooks, k.fage.trans h.fage, k.fholds.trans h.fholds, k.fhasBag.trans h.fhasBag, k.fisProud.trans h.fisProud, k.ffriendA.trans h.ffriendA, k.ffriendB.trans h.ffriendB, k.fname.trans h.fname, k.fnameSort.trans h.fnameSort, k.fnameNumber.trans h.fnameNumber⟩
def pu_BFq (a : BusT) (b : BusT) : Prop := (bu_rows b = bu_rows a) ∧ (bu_form b = bu_form a) ∧ (bu_door b = bu_door a) ∧ (bu_pace b = bu_pace a) ∧ (bu_rise b = bu_rise a) ∧ (bu_sun b = bu_sun a) ∧ (bu_rules b = bu_rules a) ∧ (bu_friends b = bu_friends a) ∧ (bu_holders b = bu_holders a) ∧ (bu_names b = bu_names a) ∧ (bu_waysMany b = bu_waysMany a) ∧ (bu_way b = bu_way a) ∧ (bu_friendA b = bu_friendA a) ∧ (bu_friendB b = bu_friendB a) ∧ (bu_name b = bu_name a) ∧ (bu_nameSort b = bu_nameSort a) ∧ (bu_nameNumber b = bu_nameNumber a)
theorem pu_BFq.frows {a : BusT} {b : BusT} (h : pu_BFq a b) : bu_rows b = bu_rows a := h.1
theorem pu_BFq.fform {a : BusT} {b : BusT} (h : pu_BFq a b) : bu_form b = bu_form a := h.2.1
theorem pu_BFq.fdoor {a : BusT} {b : BusT} (h : pu_BFq a b) : bu_door b = bu_door a := h.2.2.1
theorem pu_BFq.fpace {a : BusT} {b : BusT} (h : pu_BFq a b) : bu_pace b = bu_pace a := h.2.2.2.1
theorem pu_BFq.frise {a : BusT} {b : BusT} (h : pu_BFq a b) : bu_rise b = bu_rise a := h.2.2.2.2.1
theorem pu_BFq.fsun {a : BusT} {b : BusT} (h : pu_BFq a b) : bu_sun b = bu_sun a := h.2.2.2.2.2.1
theorem pu_BFq.frules {a : BusT} {b : BusT} (h : pu_BFq a b) : bu_rules b = bu_rules a := h.2.2.2.2.2.2.1
theorem pu_BFq.ffriends {a : BusT} {b : BusT} (h : pu_BFq a b) : bu_friends b = bu_friends a := h.2.2.2.2.2.2.2.1
theorem pu_BFq.fholders {a : BusT} {b : BusT} (h : pu_BFq a b) : bu_holders b = bu_holders a := h.2.2.2.2.2.2.2.2.1
theorem pu_BFq.fnames {a : BusT} {b : BusT} (h : pu_BFq a b) : bu_names b = bu_names a := h.2.2.2.2.2.2.2.2.2.1
theorem pu_BFq.fwaysMany {a : BusT} {b : BusT} (h : pu_BFq a b) : bu_waysMany b = bu_waysMany a := h.2.2.2.2.2.2.2.2.2.2.1
theorem pu_BFq.fway {a : BusT} {b : BusT} (h : pu_BFq a b) : bu_way b = bu_way a := h.2.2.2.2.2.2.2.2.2.2.2.1
theorem pu_BFq.ffriendA {a : BusT} {b : BusT} (h : pu_BFq a b) : bu_friendA b = bu_friendA a := h.2.2.2.2.2.2.2.2.2.2.2.2.1
theorem pu_BFq.ffriendB {a : BusT} {b : BusT} (h : pu_BFq a b) : bu_friendB b = bu_friendB a := h.2.2.2.2.2.2.2.2.2.2.2.2.2.1
theorem pu_BFq.fname {a : BusT} {b : BusT} (h : pu_BFq a b) : bu_name b = bu_name a := h.2.2.2.2.2.2.2.2.2.2.2.2.2.2.1
theorem pu_BFq.fnameSort {a : BusT} {b : BusT} (h : pu_BFq a b) : bu_nameSort b = bu_nameSort a := h.2.2.2.2.2.2.2.2.2.2.2.2.2.2.2.1
theorem pu_BFq.fnameNumber {a : BusT} {b : BusT} (h : pu_BFq a b) : bu_nameNumber b = bu_nameNumber a := h.2.2.2.2.2.2.2.2.2.2.2.2.2.2.2.2
theorem pu_BFq.rf (a : BusT) : pu_BFq a a := ⟨rfl, rfl, rfl, rfl, rfl, rfl, rfl, rfl, rfl, rfl, rfl, rfl, rfl, rfl, rfl, rfl, rfl⟩
theorem pu_BFq.trans {a b d : BusT} (h : pu_BFq a b) (k : pu_BFq b d) : pu_BFq a d := ⟨k.frows.trans h.frows, k.fform.trans h.fform, k.fdoor.trans h.fdoor, k.fpace.trans h.fpace, k.frise.trans h.frise, k.fsun.trans h.fsun, k.frules.trans h.frules, k.ffriends.trans h.ffriends, k.fholders.trans h.fholders, k.fnames.trans h.fnames, k.fwaysMany.trans h.fwaysMany, k.fway.trans h.fway, k.ffriendA.trans h.ffriendA, k.ffriendB.trans h.ffriendB, k.fname.trans h.fname, k.fnameSort.trans h.fnameSort, k.fnameNumber.trans h.fnameNumber⟩
def pu_BFf (a : BusT) (b : BusT) : Prop := (bu_rows b = bu_rows a) ∧ (bu_form b = bu_form a) ∧ (bu_door b = bu_door a) ∧ (bu_pace b = bu_pace a) ∧ (bu_rise b = bu_rise a) ∧ (bu_sun b = bu_sun a) ∧ (bu_rules b = bu_rules a) ∧ (bu_riders b = bu_riders a) ∧ (bu_holders b = bu_holders a) ∧ (bu_names b = bu_names a) ∧ (bu_waysMany b = bu_waysMany a) ∧ (bu_way b = bu_way a) ∧ (bu_on b = bu_on a) ∧ (bu_off b = bu_off a) ∧ (bu_rule b = bu_rule a) ∧ (bu_looks b = bu_looks a) ∧ (bu_age b = bu_age a) ∧ (bu_holds b = bu_holds a) ∧ (bu_hasBag b = bu_hasBag a) ∧ (bu_isProud b = bu_isProud a) ∧ (bu_name b = bu_name a) ∧ (bu_nameSort b = bu_nameSort a) ∧ (bu_nameNumber b = bu_nameNumber a)
theorem pu_BFf.frows {a : BusT} {b : BusT} (h : pu_BFf a b) : bu_rows b = bu_rows a := h.1
theorem pu_BFf.fform {a : BusT} {b : BusT} (h : pu_BFf a b) : bu_form b = bu_form a := h.2.1
theorem pu_BFf.fdoor {a : BusT} {b : BusT} (h : pu_BFf a b) : bu_door b = bu_door a := h.2.2.1
theorem pu_BFf.fpace {a : BusT} {b : BusT} (h : pu_BFf a b) : bu_pace b = bu_pace a := h.2.2.2.1
theorem pu_BFf.frise {a : BusT} {b : BusT} (h : pu_BFf a b) : bu_rise b = bu_rise a := h.2.2.2.2.1
theorem pu_BFf.fsun {a : BusT} {b : BusT} (h : pu_BFf a b) : bu_sun b = bu_sun a := h.2.2.2.2.2.1
theorem pu_BFf.frules {a : BusT} {b : BusT} (h : pu_BFf a b) : bu_rules b = bu_rules a := h.2.2.2.2.2.2.1
theorem pu_BFf.friders {a : BusT} {b : BusT} (h : pu_BFf a b) : bu_riders b = bu_riders a := h.2.2.2.2.2.2.2.1
theorem pu_BFf.fholders {a : BusT} {b : BusT} (h : pu_BFf a b) : bu_holders b = bu_holders a := h.2.2.2.2.2.2.2.2.1
theorem pu_BFf.fnames {a : BusT} {b : BusT} (h : pu_BFf a b) : bu_names b = bu_names a := h.2.2.2.2.2.2.2.2.2.1
theorem pu_BFf.fwaysMany {a : BusT} {b : BusT} (h : pu_BFf a b) : bu_waysMany b = bu_waysMany a := h.2.2.2.2.2.2.2.2.2.2.1
theorem pu_BFf.fway {a : BusT} {b : BusT} (h : pu_BFf a b) : bu_way b = bu_way a := h.2.2.2.2.2.2.2.2.2.2.2.1
theorem pu_BFf.fon {a : BusT} {b : BusT} (h : pu_BFf a b) : bu_on b = bu_on a := h.2.2.2.2.2.2.2.2.2.2.2.2.1
theorem pu_BFf.foff {a : BusT} {b : BusT} (h : pu_BFf a b) : bu_off b = bu_off a := h.2.2.2.2.2.2.2.2.2.2.2.2.2.1
theorem pu_BFf.frule {a : BusT} {b : BusT} (h : pu_BFf a b) : bu_rule b = bu_rule a := h.2.2.2.2.2.2.2.2.2.2.2.2.2.2.1
theorem pu_BFf.flooks {a : BusT} {b : BusT} (h : pu_BFf a b) : bu_looks b = bu_looks a := h.2.2.2.2.2.2.2.2.2.2.2.2.2.2.2.1
theorem pu_BFf.fage {a : BusT} {b : BusT} (h : pu_BFf a b) : bu_age b = bu_age a := h.2.2.2.2.2.2.2.2.2.2.2.2.2.2.2.2.1
theorem pu_BFf.fholds {a : BusT} {b : BusT} (h : pu_BFf a b) : bu_holds b = bu_holds a := h.2.2.2.2.2.2.2.2.2.2.2.2.2.2.2.2.2.1
theorem pu_BFf.fhasBag {a : BusT} {b : BusT} (h : pu_BFf a b) : bu_hasBag b = bu_hasBag a := h.2.2.2.2.2.2.2.2.2.2.2.2.2.2.2.2.2.2.1
theorem pu_BFf.fisProud {a : BusT} {b : BusT} (h : pu_BFf a b) : bu_isProud b = bu_isProud a := h.2.2.2.2.2.2.2.2.2.2.2.2.2.2.2.2.2.2.2.1
theorem pu_BFf.fname {a : BusT} {b : BusT} (h : pu_BFf a b) : bu_name b = bu_name a := h.2.2.2.2.2.2.2.2.2.2.2.2.2.2.2.2.2.2.2.2.1
theorem pu_BFf.fnameSort {a : BusT} {b : BusT} (h : pu_BFf a b) : bu_nameSort b = bu_nameSort a := h.2.2.2.2.2.2.2.2.2.2.2.2.2.2.2.2.2.2.2.2.2.1
theorem pu_BFf.fnameNumber {a : BusT} {b : BusT} (h : pu_BFf a b) : bu_nameNumber b = bu_nameNumber a := h.2.2.2.2.2.2.2.2.2.2.2.2.2.2.2.2.2.2.2.2.2.2
theorem pu_BFf.rf (a : BusT) : pu_BFf a a := ⟨rfl, rfl, rfl, rfl, rfl, rfl, rfl, rfl, rfl, rfl, rfl, rfl, rfl, rfl, rfl, rfl, rfl, rfl, rfl, rfl, rfl, rfl, rfl⟩
theorem pu_BFf.trans {a b d : BusT} (h : pu_BFf a b) (k : pu_BFf b d) : pu_BFf a d := ⟨k.frows.trans h.frows, k.fform.trans h.fform, k.fdoor.trans h.fdoor, k.fpace.trans h.fpace, k.frise.trans h.frise, k.fsun.trans h.fsun, k.frules.trans h.frules, k.friders.trans h.friders, k.fholders.trans h.fholders, k.fnames.trans h.fnames, k.fwaysMany.trans h.fwaysMany, k.fway.trans h.fway, k.fon.trans h.fon, k.foff.trans h.foff, k.frule.trans h.frule, k.flooks.trans h.flooks, k.fage.trans h.fage, k.fholds.trans h.fholds, k.fhasBag.trans h.fhasBag, k.fisProud.trans h.fisProud, k.fname.trans h.fname, k.fnameSort.trans h.fnameSort, k.fnameNumber.trans h.fnameNumber⟩
def pu_BFh (a : BusT) (b : BusT) : Prop := (bu_rows b = bu_rows a) ∧ (bu_form b = bu_form a) ∧ (bu_door b = bu_door a) ∧ (bu_pace b = bu_pace a) ∧ (bu_rise b = bu_rise a) ∧ (bu_sun b = bu_sun a) ∧ (bu_rules b = bu_rules a) ∧ (bu_riders b = bu_riders a) ∧ (bu_friends b = bu_friends a) ∧ (bu_names b = bu_names a) ∧ (bu_waysMany b = bu_waysMany a) ∧ (bu_way b = bu_way a) ∧ (bu_on b = bu_on a) ∧ (bu_off b = bu_off a) ∧ (bu_rule b = bu_rule a) ∧ (bu_looks b = bu_looks a) ∧ (bu_age b = bu_age a) ∧ (bu_hasBag b = bu_hasBag a) ∧ (bu_isProud b = bu_isProud a) ∧ (bu_friendA b = bu_friendA a) ∧ (bu_friendB b = bu_friendB a) ∧ (bu_name b = bu_name a) ∧ (bu_nameSort b = bu_nameSort a) ∧ (bu_nameNumber b = bu_nameNumber a)
theorem pu_BFh.frows {a : BusT} {b : BusT} (h : pu_BFh a b) : bu_rows b = bu_rows a := h.1
theorem pu_BFh.fform {a : BusT} {b : BusT} (h : pu_BFh a b) : bu_form b = bu_form a := h.2.1
theorem pu_BFh.fdoor {a : BusT} {b : BusT} (h : pu_BFh a b) : bu_door b = bu_door a := h.2.2.1
theorem pu_BFh.fpace {a : BusT} {b : BusT} (h : pu_BFh a b) : bu_pace b = bu_pace a := h.2.2.2.1
theorem pu_BFh.frise {a : BusT} {b : BusT} (h : pu_BFh a b) : bu_rise b = bu_rise a := h.2.2.2.2.1
theorem pu_BFh.fsun {a : BusT} {b : BusT} (h : pu_BFh a b) : bu_sun b = bu_sun a := h.2.2.2.2.2.1
theorem pu_BFh.frules {a : BusT} {b : BusT} (h : pu_BFh a b) : bu_rules b = bu_rules a := h.2.2.2.2.2.2.1
theorem pu_BFh.friders {a : BusT} {b : BusT} (h : pu_BFh a b) : bu_riders b = bu_riders a := h.2.2.2.2.2.2.2.1
theorem pu_BFh.ffriends {a : BusT} {b : BusT} (h : pu_BFh a b) : bu_friends b = bu_friends a := h.2.2.2.2.2.2.2.2.1
theorem pu_BFh.fnames {a : BusT} {b : BusT} (h : pu_BFh a b) : bu_names b = bu_names a := h.2.2.2.2.2.2.2.2.2.1
theorem pu_BFh.fwaysMany {a : BusT} {b : BusT} (h : pu_BFh a b) : bu_waysMany b = bu_waysMany a := h.2.2.2.2.2.2.2.2.2.2.1
theorem pu_BFh.fway {a : BusT} {b : BusT} (h : pu_BFh a b) : bu_way b = bu_way a := h.2.2.2.2.2.2.2.2.2.2.2.1
theorem pu_BFh.fon {a : BusT} {b : BusT} (h : pu_BFh a b) : bu_on b = bu_on a := h.2.2.2.2.2.2.2.2.2.2.2.2.1
theorem pu_BFh.foff {a : BusT} {b : BusT} (h : pu_BFh a b) : bu_off b = bu_off a := h.2.2.2.2.2.2.2.2.2.2.2.2.2.1
theorem pu_BFh.frule {a : BusT} {b : BusT} (h : pu_BFh a b) : bu_rule b = bu_rule a := h.2.2.2.2.2.2.2.2.2.2.2.2.2.2.1
theorem pu_BFh.flooks {a : BusT} {b : BusT} (h : pu_BFh a b) : bu_looks b = bu_looks a := h.2.2.2.2.2.2.2.2.2.2.2.2.2.2.2.1
theorem pu_BFh.fage {a : BusT} {b : BusT} (h : pu_BFh a b) : bu_age b = bu_age a := h.2.2.2.2.2.2.2.2.2.2.2.2.2.2.2.2.1
theorem pu_BFh.fhasBag {a : BusT} {b : BusT} (h : pu_BFh a b) : bu_hasBag b = bu_hasBag a := h.2.2.2.2.2.2.2.2.2.2.2.2.2.2.2.2.2.1
theorem pu_BFh.fisProud {a : BusT} {b : BusT} (h : pu_BFh a b) : bu_isProud b = bu_isProud a := h.2.2.2.2.2.2.2.2.2.2.2.2.2.2.2.2.2.2.1
theorem pu_BFh.ffriendA {a : BusT} {b : BusT} (h : pu_BFh a b) : bu_friendA b = bu_friendA a := h.2.2.2.2.2.2.2.2.2.2.2.2.2.2.2.2.2.2.2.1
theorem pu_BFh.ffriendB {a : BusT} {b : BusT} (h : pu_BFh a b) : bu_friendB b = bu_friendB a := h.2.2.2.2.2.2.2.2.2.2.2.2.2.2.2.2.2.2.2.2.1
theorem pu_BFh.fname {a : BusT} {b : BusT} (h : pu_BFh a b) : bu_name b = bu_name a := h.2.2.2.2.2.2.2.2.2.2.2.2.2.2.2.2.2.2.2.2.2.1
theorem pu_BFh.fnameSort {a : BusT} {b : BusT} (h : pu_BFh a b) : bu_nameSort b = bu_nameSort a := h.2.2.2.2.2.2.2.2.2.2.2.2.2.2.2.2.2.2.2.2.2.2.1
theorem pu_BFh.fnameNumber {a : BusT} {b : BusT} (h : pu_BFh a b) : bu_nameNumber b = bu_nameNumber a := h.2.2.2.2.2.2.2.2.2.2.2.2.2.2.2.2.2.2.2.2.2.2.2
theorem pu_BFh.rf (a : BusT) : pu_BFh a a := ⟨rfl, rfl, rfl, rfl, rfl, rfl, rfl, rfl, rfl, rfl, rfl, rfl, rfl, rfl, rfl, rfl, rfl, rfl, rfl, rfl, rfl, rfl, rfl, rfl⟩
theorem pu_BFh.trans {a b d : BusT} (h : pu_BFh a b) (k : pu_BFh b d) : pu_BFh a d := ⟨k.frows.trans h.frows, k.fform.trans h.fform, k.fdoor.trans h.fdoor, k.fpace.trans h.fpace, k.frise.trans h.frise, k.fsun.trans h.fsun, k.frules.trans h.frules, k.friders.trans h.friders, k.ffriends.trans h.ffriends, k.fnames.trans h.fnames, k.fwaysMany.trans h.fwaysMany, k.fway.trans h.fway, k.fon.trans h.fon, k.foff.trans h.foff, k.frule.trans h.frule, k.flooks.trans h.flooks, k.fage.trans h.fage, k.fhasBag.trans h.fhasBag, k.fisProud.trans h.fisProud, k.ffriendA.trans h.ffriendA, k.ffriendB.trans h.ffriendB, k.fname.trans h.fname, k.fnameSort.trans h.fnameSort, k.fnameNumber.trans h.fnameNumber⟩
def pu_PFc (a : PlanT) (b : PlanT) : Prop := (pl_rules b = pl_rules a) ∧ (pl_riders b = pl_riders a) ∧ (pl_ruleCount b = pl_ruleCount a) ∧ (pl_riderCount b = pl_riderCount a) ∧ (pl_friendCount b = pl_friendCount a) ∧ (pl_holderCount b = pl_holderCount a)
theorem pu_PFc.frules {a : PlanT} {b : PlanT} (h : pu_PFc a b) : pl_rules b = pl_rules a := h.1
theorem pu_PFc.friders {a : PlanT} {b : PlanT} (h : pu_PFc a b) : pl_riders b = pl_riders a := h.2.1
theorem pu_PFc.fruleCount {a : PlanT} {b : PlanT} (h : pu_PFc a b) : pl_ruleCount b = pl_ruleCount a := h.2.2.1
theorem pu_PFc.friderCount {a : PlanT} {b : PlanT} (h : pu_PFc a b) : pl_riderCount b = pl_riderCount a := h.2.2.2.1
theorem pu_PFc.ffriendCount {a : PlanT} {b : PlanT} (h : pu_PFc a b) : pl_friendCount b = pl_friendCount a := h.2.2.2.2.1
theorem pu_PFc.fholderCount {a : PlanT} {b : PlanT} (h : pu_PFc a b) : pl_holderCount b = pl_holderCount a := h.2.2.2.2.2
theorem pu_PFc.rf (a : PlanT) : pu_PFc a a := ⟨rfl, rfl, rfl, rfl, rfl, rfl⟩
theorem pu_PFc.trans {a b d : PlanT} (h : pu_PFc a b) (k : pu_PFc b d) : pu_PFc a d := ⟨k.frules.trans h.frules, k.friders.trans h.friders, k.fruleCount.trans h.fruleCount, k.friderCount.trans h.friderCount, k.ffriendCount.trans h.ffriendCount, k.fholderCount.trans h.fholderCount⟩
def pu_PFr (a : PlanT) (b : PlanT) : Prop := (pl_cab b = pl_cab a) ∧ (pl_riders b = pl_riders a) ∧ (pl_hasCabin b = pl_hasCabin a) ∧ (pl_riderCount b = pl_riderCount a) ∧ (pl_friendCount b = pl_friendCount a) ∧ (pl_holderCount b = pl_holderCount a)
theorem pu_PFr.fcab {a : PlanT} {b : PlanT} (h : pu_PFr a b) : pl_cab b = pl_cab a := h.1
theorem pu_PFr.friders {a : PlanT} {b : PlanT} (h : pu_PFr a b) : pl_riders b = pl_riders a := h.2.1
theorem pu_PFr.fhasCabin {a : PlanT} {b : PlanT} (h : pu_PFr a b) : pl_hasCabin b = pl_hasCabin a := h.2.2.1
theorem pu_PFr.friderCount {a : PlanT} {b : PlanT} (h : pu_PFr a b) : pl_riderCount b = pl_riderCount a := h.2.2.2.1
theorem pu_PFr.ffriendCount {a : PlanT} {b : PlanT} (h : pu_PFr a b) : pl_friendCount b = pl_friendCount a := h.2.2.2.2.1
theorem pu_PFr.fholderCount {a : PlanT} {b : PlanT} (h : pu_PFr a b) : pl_holderCount b = pl_holderCount a := h.2.2.2.2.2
theorem pu_PFr.rf (a : PlanT) : pu_PFr a a := ⟨rfl, rfl, rfl, rfl, rfl, rfl⟩
theorem pu_PFr.trans {a b d : PlanT} (h : pu_PFr a b) (k : pu_PFr b d) : pu_PFr a d := ⟨k.fcab.trans h.fcab, k.friders.trans h.friders, k.fhasCabin.trans h.fhasCabin, k.friderCount.trans h.friderCount, k.ffriendCount.trans h.ffriendCount, k.fholderCount.trans h.fholderCount⟩
def pu_PFq (a : PlanT) (b : PlanT) : Prop := (pl_cab b = pl_cab a) ∧ (pl_rules b = pl_rules a) ∧ (pl_hasCabin b = pl_hasCabin a) ∧ (pl_ruleCount b = pl_ruleCount a) ∧ (pl_friendCount b = pl_friendCount a) ∧ (pl_holderCount b = pl_holderCount a)
theorem pu_PFq.fcab {a : PlanT} {b : PlanT} (h : pu_PFq a b) : pl_cab b = pl_cab a := h.1
theorem pu_PFq.frules {a : PlanT} {b : PlanT} (h : pu_PFq a b) : pl_rules b = pl_rules a := h.2.1
theorem pu_PFq.fhasCabin {a : PlanT} {b : PlanT} (h : pu_PFq a b) : pl_hasCabin b = pl_hasCabin a := h.2.2.1
theorem pu_PFq.fruleCount {a : PlanT} {b : PlanT} (h : pu_PFq a b) : pl_ruleCount b = pl_ruleCount a := h.2.2.2.1
theorem pu_PFq.ffriendCount {a : PlanT} {b : PlanT} (h : pu_PFq a b) : pl_friendCount b = pl_friendCount a := h.2.2.2.2.1
theorem pu_PFq.fholderCount {a : PlanT} {b : PlanT} (h : pu_PFq a b) : pl_holderCount b = pl_holderCount a := h.2.2.2.2.2
theorem pu_PFq.rf (a : PlanT) : pu_PFq a a := ⟨rfl, rfl, rfl, rfl, rfl, rfl⟩
theorem pu_PFq.trans {a b d : PlanT} (h : pu_PFq a b) (k : pu_PFq b d) : pu_PFq a d := ⟨k.fcab.trans h.fcab, k.frules.trans h.frules, k.fhasCabin.trans h.fhasCabin, k.fruleCount.trans h.fruleCount, k.ffriendCount.trans h.ffriendCount, k.fholderCount.trans h.fholderCount⟩
def pu_PFf (a : PlanT) (b : PlanT) : Prop := (pl_cab b = pl_cab a) ∧ (pl_rules b = pl_rules a) ∧ (pl_hasCabin b = pl_hasCabin a) ∧ (pl_ruleCount b = pl_ruleCount a) ∧ (pl_riderCount b = pl_riderCount a) ∧ (pl_holderCount b = pl_holderCount a)
theorem pu_PFf.fcab {a : PlanT} {b : PlanT} (h : pu_PFf a b) : pl_cab b = pl_cab a := h.1
theorem pu_PFf.frules {a : PlanT} {b : PlanT} (h : pu_PFf a b) : pl_rules b = pl_rules a := h.2.1
theorem pu_PFf.fhasCabin {a : PlanT} {b : PlanT} (h : pu_PFf a b) : pl_hasCabin b = pl_hasCabin a := h.2.2.1
theorem pu_PFf.fruleCount {a : PlanT} {b : PlanT} (h : pu_PFf a b) : pl_ruleCount b = pl_ruleCount a := h.2.2.2.1
theorem pu_PFf.friderCount {a : PlanT} {b : PlanT} (h : pu_PFf a b) : pl_riderCount b = pl_riderCount a := h.2.2.2.2.1
theorem pu_PFf.fholderCount {a : PlanT} {b : PlanT} (h : pu_PFf a b) : pl_holderCount b = pl_holderCount a := h.2.2.2.2.2
theorem pu_PFf.rf (a : PlanT) : pu_PFf a a := ⟨rfl, rfl, rfl, rfl, rfl, rfl⟩
theorem pu_PFf.trans {a b d : PlanT} (h : pu_PFf a b) (k : pu_PFf b d) : pu_PFf a d := ⟨k.fcab.trans h.fcab, k.frules.trans h.frules, k.fhasCabin.trans h.fhasCabin, k.fruleCount.trans h.fruleCount, k.friderCount.trans h.friderCount, k.fholderCount.trans h.fholderCount⟩
def pu_PFh (a : PlanT) (b : PlanT) : Prop := (pl_cab b = pl_cab a) ∧ (pl_rules b = pl_rules a) ∧ (pl_hasCabin b = pl_hasCabin a) ∧ (pl_ruleCount b = pl_ruleCount a) ∧ (pl_riderCount b = pl_riderCount a) ∧ (pl_friendCount b = pl_friendCount a)
theorem pu_PFh.fcab {a : PlanT} {b : PlanT} (h : pu_PFh a b) : pl_cab b = pl_cab a := h.1
theorem pu_PFh.frules {a : PlanT} {b : PlanT} (h : pu_PFh a b) : pl_rules b = pl_rules a := h.2.1
theorem pu_PFh.fhasCabin {a : PlanT} {b : PlanT} (h : pu_PFh a b) : pl_hasCabin b = pl_hasCabin a := h.2.2.1
theorem pu_PFh.fruleCount {a : PlanT} {b : PlanT} (h : pu_PFh a b) : pl_ruleCount b = pl_ruleCount a := h.2.2.2.1
theorem pu_PFh.friderCount {a : PlanT} {b : PlanT} (h : pu_PFh a b) : pl_riderCount b = pl_riderCount a := h.2.2.2.2.1
theorem pu_PFh.ffriendCount {a : PlanT} {b : PlanT} (h : pu_PFh a b) : pl_friendCount b = pl_friendCount a := h.2.2.2.2.2
theorem pu_PFh.rf (a : PlanT) : pu_PFh a a := ⟨rfl, rfl, rfl, rfl, rfl, rfl⟩
theorem pu_PFh.trans {a b d : PlanT} (h : pu_PFh a b) (k : pu_PFh b d) : pu_PFh a d := ⟨k.fcab.trans h.fcab, k.frules.trans h.frules, k.fhasCabin.trans h.fhasCabin, k.fruleCount.trans h.fruleCount, k.friderCount.trans h.friderCount, k.ffriendCount.trans h.ffriendCount⟩
section PX
variable {c : Nat → Nat} {n : Nat} {tape : TapeT} {s e : Nat} {ps : ParserT} {mo : MOT} {pl : PlanT} {bu : BusT} {R N F H : Nat}
theorem pu_place {cb : CabT} {x f : Nat} (hx : cb_rows cb = nI x) (x5 : x ≤ 5) (hf : cb_form cb = nI f) (f3 : f < 3) : ∃ cb', f_X0_placeSeats cb = some cb' ∧ cb_seats cb' = pu_mk (pu_seat x f) 20 ∧ (∀ s, s < 20 → cb_beside cb' s = if pu_seat x f s && pu_b2 f s then nI (s ^^^ 1) else -2) ∧ cb_rows cb' = cb_rows cb ∧ cb_form cb' = cb_form cb ∧ cb_door cb' = cb_door cb ∧ cb_pace cb' = cb_pace cb ∧ cb_rise cb' = cb_rise cb ∧ cb_sun cb' = cb_sun cb := by
  refine pu_for (fun m i z => f_X0_placeSeats_b7 m i z) 20 (fun i z => cb_seats z = pu_mk (pu_seat x f) i ∧ (∀ s, s < i → cb_beside z s = if pu_seat x f s && pu_b2 f s then nI (s ^^^ 1) else -2) ∧ cb_rows z = cb_rows cb ∧ cb_form z = cb_form cb ∧ cb_door z = cb_door cb ∧ cb_pace z = cb_pace cb ∧ cb_rise z = cb_rise cb ∧ cb_sun z = cb_sun cb) (fun o => ∃ cb', o = some cb' ∧ cb_seats cb' = pu_mk (pu_seat x f) 20 ∧ (∀ s, s < 20 → cb_beside cb' s = if pu_seat x f s && pu_b2 f s then nI (s ^^^ 1) else -2) ∧ cb_rows cb' = cb_rows cb ∧ cb_form cb' = cb_form cb ∧ cb_door cb' = cb_door cb ∧ cb_pace cb' = cb_pace cb ∧ cb_rise cb' = cb_rise cb ∧ cb_sun cb' = cb_sun cb) ?_ ?_ 20 0 (cb_set_seats cb 0) 4096 (by omega) (by omega) ⟨rfl, fun s hs => by omega, rfl, rfl, rfl, rfl, rfl, rfl⟩
  · intro m i z hi hI
    obtain ⟨i1, i2, i3, i4, i5, i6, i7, i8⟩ := hI
    have ex := pu_x20 i hi
    have hm4 : i % 4 < 4 := Nat.mod_lt _ (by omega)
    have e48 : ∀ z' : CabT, cb_rows z' = cb_rows cb → cb_form z' = cb_form cb → f_X0_placeSeats_b48 (f_X0_placeSeats_b7 m) (nI i) z' = f_X0_placeSeats_b7 m (nI (i + 1)) (cb_set_beside z' (upd (cb_beside z') i (if pu_seat x f i && pu_b2 f i then nI (i ^^^ 1) else -2))) := by
      intro z' j1 j2
      have e84 : ∀ s0 : Int32, f_X0_placeSeats_b84 (f_X0_placeSeats_b7 m) (nI i) s0 (nI i) z' = f_X0_placeSeats_b7 m (nI (i + 1)) (cb_set_beside z' (upd (cb_beside z') i s0)) := by
        intro s0
        rw [f_X0_placeSeats_b84, if_pos (pu_inn hi (by omega)), nI_clamp (by omega), nI_1]
      rw [f_X0_placeSeats_b48, j1, j2, hx, hf, show (4 : Int32) * nI x = nI (4 * x) from pk_mul 4 x, f_X0_placeSeats_b82, pu_rem4 (by omega), pu_isPaired f f3 _ hm4, pu_sb, pu_ifb, pu_xor1, e84, e84]
      unfold pu_seat pu_b2
      rw [ex.2.2.1]
      by_cases q : 4 * x ≤ i
      · rw [if_pos (nI_le q (by omega)), decide_eq_false (by omega), Bool.false_and, Bool.false_and]
        rfl
      · rw [if_neg (nI_ge (by omega) (by omega)), decide_eq_true (by omega), Bool.true_and]
        cases pu_in f (i % 4) <;> cases pu_in f (i % 4 ^^^ 1) <;> rfl
    have st : f_X0_placeSeats_b7 (m + 1) (nI i) z = f_X0_placeSeats_b48 (f_X0_placeSeats_b7 m) (nI i) (if pu_seat x f i = true then cb_set_seats z (cb_seats z ||| ((1 : Int32) <<< (nI i &&& 31))) else z) := by
      rw [f_X0_placeSeats_b7, if_neg (pu_ge20 hi), i3, i4, hx, hf, show (4 : Int32) * nI x = nI (4 * x) from pk_mul 4 x, pu_rem4 (by omega), pu_isIn f f3 _ hm4, pu_sb, pu_ifb]
      unfold pu_seat
      by_cases q : 4 * x ≤ i
      · rw [if_pos (nI_le q (by omega)), decide_eq_false (by omega), Bool.false_and, pu_ff]
      · rw [if_neg (nI_ge (by omega) (by omega)), decide_eq_true (by omega), Bool.true_and]
        cases pu_in f (i % 4) <;> rfl
    refine Or.inl ⟨cb_set_beside (if pu_seat x f i = true then cb_set_seats z (cb_seats z ||| ((1 : Int32) <<< (nI i &&& 31))) else z) (upd (cb_beside z) i (if pu_seat x f i && pu_b2 f i then nI (i ^^^ 1) else -2)), ?_, ?_⟩
    · show f_X0_placeSeats_b7 (m + 1) (nI i) z = _
      rw [st, e48]
      · cases pu_seat x f i <;> rfl
      · cases pu_seat x f i <;> exact i3
      · cases pu_seat x f i <;> exact i4
    · refine ⟨?_, pu_upI (P := fun s y => y = if pu_seat x f s && pu_b2 f s then nI (s ^^^ 1) else -2) rfl i2, ?_, ?_, ?_, ?_, ?_, ?_⟩
      · rw [pu_mk]
        cases hb : pu_seat x f i
        · show cb_seats z = _
          rw [i1]; rfl
        · show cb_seats z ||| _ = _
          rw [i1]; rfl
      · cases pu_seat x f i <;> exact i3
      · cases pu_seat x f i <;> exact i4
      · cases pu_seat x f i <;> exact i5
      · cases pu_seat x f i <;> exact i6
      · cases pu_seat x f i <;> exact i7
      · cases pu_seat x f i <;> exact i8
  · intro m z hI
    refine ⟨z, ?_, hI⟩
    show f_X0_placeSeats_b7 (m + 1) (nI 20) z = _
    rw [f_X0_placeSeats_b7, if_pos pu_le20]
theorem pu_addN (bu : BusT) (A : Nat → Int64) (B D : Nat → Int32) (x : Int32) : pu_BFn bu (bu_set_names (bu_set_nameNumber (bu_set_nameSort (bu_set_name bu A) B) D) x) ∧ bu_name (bu_set_names (bu_set_nameNumber (bu_set_nameSort (bu_set_name bu A) B) D) x) = A ∧ bu_nameSort (bu_set_names (bu_set_nameNumber (bu_set_nameSort (bu_set_name bu A) B) D) x) = B ∧ bu_nameNumber (bu_set_names (bu_set_nameNumber (bu_set_nameSort (bu_set_name bu A) B) D) x) = D ∧ bu_names (bu_set_names (bu_set_nameNumber (bu_set_nameSort (bu_set_name bu A) B) D) x) = x := by
  have s1 : ∀ (b : BusT) (a : Nat → Int64), pu_BFn b (bu_set_name b a) ∧ bu_name (bu_set_name b a) = a := fun b a => ⟨⟨rfl, rfl, rfl, rfl, rfl, rfl, rfl, rfl, rfl, rfl, rfl, rfl, rfl, rfl, rfl, rfl, rfl, rfl, rfl, rfl, rfl, rfl⟩, rfl⟩
  have s2 : ∀ (b : BusT) (a : Nat → Int32), pu_BFn b (bu_set_nameSort b a) ∧ bu_nameSort (bu_set_nameSort b a) = a ∧ bu_name (bu_set_nameSort b a) = bu_name b := fun b a => ⟨⟨rfl, rfl, rfl, rfl, rfl, rfl, rfl, rfl, rfl, rfl, rfl, rfl, rfl, rfl, rfl, rfl, rfl, rfl, rfl, rfl, rfl, rfl⟩, rfl, rfl⟩
  have s3 : ∀ (b : BusT) (a : Nat → Int32), pu_BFn b (bu_set_nameNumber b a) ∧ bu_nameNumber (bu_set_nameNumber b a) = a ∧ bu_name (bu_set_nameNumber b a) = bu_name b ∧ bu_nameSort (bu_set_nameNumber b a) = bu_nameSort b := fun b a => ⟨⟨rfl, rfl, rfl, rfl, rfl, rfl, rfl, rfl, rfl, rfl, rfl, rfl, rfl, rfl, rfl, rfl, rfl, rfl, rfl, rfl, rfl, rfl⟩, rfl, rfl, rfl⟩
  have s4 : ∀ (b : BusT) (a : Int32), pu_BFn b (bu_set_names b a) ∧ bu_names (bu_set_names b a) = a ∧ bu_name (bu_set_names b a) = bu_name b ∧ bu_nameSort (bu_set_names b a) = bu_nameSort b ∧ bu_nameNumber (bu_set_names b a) = bu_nameNumber b := fun b a => ⟨⟨rfl, rfl, rfl, rfl, rfl, rfl, rfl, rfl, rfl, rfl, rfl, rfl, rfl, rfl, rfl, rfl, rfl, rfl, rfl, rfl, rfl, rfl⟩, rfl, rfl, rfl, rfl⟩
  have q1 := s1 bu A
  generalize bu_set_name bu A = b1 at q1 ⊢
  have q2 := s2 b1 B
  generalize bu_set_nameSort b1 B = b2 at q2 ⊢
  have q3 := s3 b2 D
  generalize bu_set_nameNumber b2 D = b3 at q3 ⊢
  have q4 := s4 b3 x
  generalize bu_set_names b3 x = b4 at q4 ⊢
  exact ⟨((q1.1.trans q2.1).trans q3.1).trans q4.1, q4.2.2.1.trans (q3.2.2.1.trans (q2.2.2.trans q1.2)), q4.2.2.2.1.trans (q3.2.2.2.trans q2.2.1), q4.2.2.2.2.trans q3.2.1, q4.2.1⟩
/-- a name that must be fresh -/
theorem pu_fresh (t : pu_TX c n ps tape mo) (h : pu_PK c n s e ps mo) (hD : pu_RD pl bu R N F H) (h12 : R + N < 12) (so nu : Int32) :
    (ps_kind ps = 1 ∧ f_X4_isFresh ps pl = some (1, ps) ∧ ps_word ps = mo_word mo ∧ (∀ k, k < R + N → ¬ bu_name bu k = mo_word mo) ∧ ∃ bu', f_X12_readFresh mo tape bu so nu = ((f_X12_goesOn mo tape).bind fun r9 => some (r9, bu')) ∧ pu_BFn bu bu' ∧ bu_name bu' = vp_updL (bu_name bu) (R + N) (mo_word mo) ∧ bu_nameSort bu' = upd (bu_nameSort bu) (R + N) so ∧ bu_nameNumber bu' = upd (bu_nameNumber bu) (R + N) nu ∧ bu_names bu' = nI (R + N + 1)) ∨
    ∃ q mq, f_X4_isFresh ps pl = some (0, q) ∧ f_X12_readFresh mo tape bu so nu = some (mq, bu) ∧ pu_ER ps mo q mq := by
  obtain ⟨b, b1, b2, b3⟩ := pu_isName t h
  rw [f_X4_isFresh, f_X12_readFresh, b1, b2, pu_sb, pu_sb, pu_ifb, pu_ifb]
  cases b
  · rw [pu_ff, pu_ff]
    obtain ⟨q, mq, f1, f2, f3⟩ := pu_fail h (k := 1) (by decide)
    refine Or.inr ⟨q, mq, ?_, ?_, f3⟩
    · rw [f1, pu_sb, if_pos (Or.inl rfl)]
    · rw [f2, pu_sb, f_X12_readFresh_b12]
      rcases pu_findN (by omega) hD.nm (mo_word mq) with ⟨a, _⟩ | ⟨k, _, a, _⟩
      · rw [a, pu_sb, if_pos rfl, f_X12_readFresh_b32, if_pos f3.so]
      · have hk12 : ¬ nI k = (-1 : Int32) := pu_ne1 (by omega)
        rw [a, pu_sb, if_neg hk12, pu_oWr f3.so, pu_sb, f_X12_readFresh_b32, if_pos f3.so]
  rw [pu_tt, pu_tt, f_X12_readFresh_b12]
  have hk := b3 rfl
  have hw := h.w1 hk
  have ew : ps_word ps = mo_word mo := hw.2.2.2.2.1.trans hw.2.2.2.2.2.symm
  have again : ∀ X : Option (Int32 × ParserT), (∃ q mq, f_X4_isFresh_b37 pl ps = some (0, q) ∧ ((f_X12_wrong mo (3 : Int32)).bind fun r10 => f_X12_readFresh_b32 tape so nu r10 bu) = some (mq, bu) ∧ pu_ER ps mo q mq) := by
    intro _
    obtain ⟨q, mq, f1, f2, f3⟩ := pu_fail h (k := 3) (by decide)
    refine ⟨q, mq, ?_, ?_, f3⟩
    · rw [f_X4_isFresh_b37, f1, pu_sb, if_pos (Or.inl rfl)]
    · rw [f2, pu_sb, f_X12_readFresh_b32, if_pos f3.so]
  rw [ew]
  rcases pu_nR hD (mo_word mo) with ⟨i, k, hi, hk', r1, r2, _, _⟩ | ⟨r1, r2⟩
  · have hi4 := hD.rc.2.2
    rw [r1, r2, pu_sb, pu_sb, if_neg (pu_ne1 (by omega)), if_neg (pu_ne1 (by omega))]
    exact Or.inr (again none)
  · rw [r1, pu_sb, if_pos rfl]
    rcases pu_nQ hD (mo_word mo) with ⟨i, k, hi, hk', q1, q2, _, _⟩ | ⟨q1, q2⟩
    · have hi4 := hD.nc.2.2
      rw [q1, q2, pu_sb, pu_sb, if_neg (pu_ne1 (by omega)), if_neg (pu_ne1 (by omega))]
      exact Or.inr (again none)
    · have fn : f_X11_find bu (mo_word mo) = some (-1) ∧ ∀ k, k < R + N → ¬ bu_name bu k = mo_word mo := by
        rcases pu_findN (by omega) hD.nm (mo_word mo) with a | ⟨k, k1, k2, _⟩
        · exact a
        · exfalso
          have z1 : bu_nameSort bu k = 1 := by
            rcases r2 with r2 | ⟨j, j1, j2, j3⟩
            · rw [r2] at k2; injection k2 with k2; exact absurd k2.symm (pu_ne1 (by omega))
            · rw [j2] at k2; injection k2 with k2
              have := (nI_eq (a := j) (b := k) (by omega) (by omega)).mp k2
              subst this; exact j3
          have z0 : bu_nameSort bu k = 0 := by
            rcases q2 with r2 | ⟨j, j1, j2, j3⟩
            · rw [r2] at k2; injection k2 with k2; exact absurd k2.symm (pu_ne1 (by omega))
            · rw [j2] at k2; injection k2 with k2
              have := (nI_eq (a := j) (b := k) (by omega) (by omega)).mp k2
              subst this; exact j3
          rw [z0] at z1; exact absurd z1 (by decide)
      rw [q1, fn.1, pu_sb, pu_sb, if_pos rfl, if_pos rfl]
      refine Or.inl ⟨hk, rfl, rfl, fn.2, bu_set_names (bu_set_nameNumber (bu_set_nameSort (bu_set_name bu (vp_updL (bu_name bu) (R + N) (mo_word mo))) (upd (bu_nameSort bu) (R + N) so)) (upd (bu_nameNumber bu) (R + N) nu)) (nI (R + N + 1)), ?_, pu_addN _ _ _ _ _⟩
      have hn := hD.nm
      have in12 : kb_in? (nI (R + N)) 12 := pu_inn h12 (by omega)
      have e1 : ∀ (b : BusT) (a : Nat → Int64), bu_names (bu_set_name b a) = bu_names b ∧ bu_nameSort (bu_set_name b a) = bu_nameSort b ∧ bu_nameNumber (bu_set_name b a) = bu_nameNumber b := fun b a => ⟨rfl, rfl, rfl⟩
      have e2 : ∀ (b : BusT) (a : Nat → Int32), bu_names (bu_set_nameSort b a) = bu_names b ∧ bu_nameNumber (bu_set_nameSort b a) = bu_nameNumber b := fun b a => ⟨rfl, rfl⟩
      have e3 : ∀ (b : BusT) (a : Nat → Int32), bu_names (bu_set_nameNumber b a) = bu_names b := fun b a => rfl
      rw [f_X12_readFresh_b32, if_neg h.sort5, hn, if_pos in12, nI_clamp (by omega), f_X12_readFresh_b60]
      rw [(e1 _ _).1, hn, if_pos in12, nI_clamp (by omega), f_X12_readFresh_b76, (e1 _ _).2.1, (e2 _ _).1, (e1 _ _).1, hn, if_pos in12, nI_clamp (by omega), f_X12_readFresh_b92, f_X12_readFresh_b105, (e2 _ _).2, (e1 _ _).2.2, e3, (e2 _ _).1, (e1 _ _).1, hn, nI_1]
      simp only [f_X12_readFresh_b109]
/-- under OVER nothing is known -/
theorem pu_oKn (ov : mo_sort mo = 5) (hD : pu_RD pl bu R N F H) (so : Int32) : f_X12_known mo bu so = some (0, mo) := by
  have h1 := hD.rc.2.2
  have h2 := hD.nc.2.2
  have e47 : ∀ v, f_X12_known_b47 bu v mo = some (0, mo) := fun v => by rw [f_X12_known_b47, if_pos ov]
  have e42 : ∀ v, f_X12_known_b42 bu v mo = some (0, mo) := fun v => by rw [f_X12_known_b42, pu_oWr ov, pu_sb, e47]
  rw [f_X12_known, pu_oNa ov, pu_sb, if_pos rfl, pu_oWr ov, pu_sb, f_X12_known_b12]
  rcases pu_findN (by omega) hD.nm (mo_word mo) with ⟨a, _⟩ | ⟨k, k1, a, _⟩
  · rw [a, pu_sb, if_pos rfl, e42]
  · rw [a, pu_sb, if_neg (pu_ne1 (by omega)), if_pos (pu_inn (show k < 12 by omega) (by omega))]
    by_cases q : bu_nameSort bu (nI k).toNatClampNeg = so
    · rw [if_pos q, e47]
    · rw [if_neg q, e42]
/-- a rider that must be known -/
theorem pu_knownQ (t : pu_TX c n ps tape mo) (h : pu_PK c n s e ps mo) (hD : pu_RD pl bu R N F H) : (∃ r, r < N ∧ ps_kind ps = 1 ∧ f_X4_knownRider ps pl = some (nI r, ps) ∧ f_X12_known mo bu 1 = some (nI r, mo)) ∨ ∃ q mq, f_X4_knownRider ps pl = some (-1, q) ∧ f_X12_known mo bu 1 = some (0, mq) ∧ pu_ER ps mo q mq := by
  have h1 := hD.rc.2.2
  have h2 := hD.nc.2.2
  obtain ⟨b, b1, b2, b3⟩ := pu_isName t h
  rw [f_X4_knownRider, f_X12_known, b1, b2, pu_sb, pu_sb, pu_ifb, pu_ifb]
  cases b
  · rw [pu_ff, pu_ff]
    obtain ⟨q, mq, f1, f2, f3⟩ := pu_fail h (k := 1) (by decide)
    refine Or.inr ⟨q, mq, by rw [f1, pu_sb], ?_, f3⟩
    have := pu_oKn (bu := bu) f3.so hD 1
    rw [f_X12_known, pu_oNa f3.so, pu_sb, if_pos rfl, pu_oWr f3.so, pu_sb] at this
    rw [f2, pu_sb]; exact this
  rw [pu_tt, pu_tt, f_X12_known_b12]
  have hk := b3 rfl
  have hw := h.w1 hk
  have ew : ps_word ps = mo_word mo := hw.2.2.2.2.1.trans hw.2.2.2.2.2.symm
  have untold : ∀ v, ∃ q mq, f_X4_failed ps 2 = some (0, q) ∧ f_X12_known_b42 bu v mo = some (0, mq) ∧ pu_ER ps mo q mq := by
    intro v
    obtain ⟨q, mq, f1, f2, f3⟩ := pu_fail h (k := 2) (by decide)
    exact ⟨q, mq, f1, by rw [f_X12_known_b42, f2, pu_sb, f_X12_known_b47, if_pos f3.so], f3⟩
  rw [ew]
  rcases pu_nQ hD (mo_word mo) with ⟨i, k, hi, hk', q1, q2, q3, q4⟩ | ⟨q1, q2⟩
  · rw [q1, q2, pu_sb, pu_sb, if_neg (pu_ne1 (by omega)), if_neg (pu_ne1 (by omega)), if_pos (pu_inn (show k < 12 by omega) (by omega)), nI_clamp (by omega), q3, if_pos rfl, f_X12_known_b47, if_neg h.sort5, if_pos (pu_inn (show k < 12 by omega) (by omega)), nI_clamp (by omega), q4]
    exact Or.inl ⟨i, hi, hk, rfl, rfl⟩
  · rw [q1, pu_sb, if_pos rfl]
    rcases q2 with q2 | ⟨k, hk', q2, q3⟩
    · obtain ⟨q, mq, g1, g2, g3⟩ := untold (-1)
      rw [q2, pu_sb, if_pos rfl, g1, g2, pu_sb]
      exact Or.inr ⟨q, mq, rfl, rfl, g3⟩
    · obtain ⟨q, mq, g1, g2, g3⟩ := untold (nI k)
      rw [q2, pu_sb, if_neg (pu_ne1 (by omega)), if_pos (pu_inn (show k < 12 by omega) (by omega)), nI_clamp (by omega), q3, if_neg (show ¬ (0 : Int32) = 1 by decide), g1, g2, pu_sb]
      exact Or.inr ⟨q, mq, rfl, rfl, g3⟩
/-- a rule that must be known -/
theorem pu_knownR (t : pu_TX c n ps tape mo) (h : pu_PK c n s e ps mo) (hD : pu_RD pl bu R N F H) : (∃ i, i < R ∧ ps_kind ps = 1 ∧ f_X4_isName ps = some 1 ∧ f_X5_ruleNamed pl (ps_word ps) = some (nI i) ∧ f_X12_known mo bu 0 = some (nI i, mo)) ∨ ∃ q mq, ((f_X4_isName ps = some 0 ∧ f_X4_failed ps 1 = some (0, q)) ∨ (f_X4_isName ps = some 1 ∧ f_X5_ruleNamed pl (ps_word ps) = some (-1) ∧ f_X4_failed ps 2 = some (0, q))) ∧ f_X12_known mo bu 0 = some (0, mq) ∧ pu_ER ps mo q mq := by
  have h1 := hD.rc.2.2
  have h2 := hD.nc.2.2
  obtain ⟨b, b1, b2, b3⟩ := pu_isName t h
  rw [f_X12_known, b1, b2, pu_sb, pu_ifb]
  cases b
  · rw [pu_ff]
    obtain ⟨q, mq, f1, f2, f3⟩ := pu_fail h (k := 1) (by decide)
    refine Or.inr ⟨q, mq, Or.inl ⟨rfl, f1⟩, ?_, f3⟩
    have := pu_oKn (bu := bu) f3.so hD 0
    rw [f_X12_known, pu_oNa f3.so, pu_sb, if_pos rfl, pu_oWr f3.so, pu_sb] at this
    rw [f2, pu_sb]; exact this
  rw [pu_tt, f_X12_known_b12]
  have hk := b3 rfl
  have hw := h.w1 hk
  have ew : ps_word ps = mo_word mo := hw.2.2.2.2.1.trans hw.2.2.2.2.2.symm
  have untold : ∀ v, ∃ q mq, f_X4_failed ps 2 = some (0, q) ∧ f_X12_known_b42 bu v mo = some (0, mq) ∧ pu_ER ps mo q mq := by
    intro v
    obtain ⟨q, mq, f1, f2, f3⟩ := pu_fail h (k := 2) (by decide)
    exact ⟨q, mq, f1, by rw [f_X12_known_b42, f2, pu_sb, f_X12_known_b47, if_pos f3.so], f3⟩
  rw [ew]
  rcases pu_nR hD (mo_word mo) with ⟨i, k, hi, hk', q1, q2, q3, q4⟩ | ⟨q1, q2⟩
  · rw [q1, q2, pu_sb, if_neg (pu_ne1 (by omega)), if_pos (pu_inn (show k < 12 by omega) (by omega)), nI_clamp (by omega), q3, if_pos rfl, f_X12_known_b47, if_neg h.sort5, if_pos (pu_inn (show k < 12 by omega) (by omega)), nI_clamp (by omega), q4]
    exact Or.inl ⟨i, hi, hk, rfl, rfl, rfl⟩
  · rw [q1]
    rcases q2 with q2 | ⟨k, hk', q2, q3⟩
    · obtain ⟨q, mq, g1, g2, g3⟩ := untold (-1)
      rw [q2, pu_sb, if_pos rfl, g2]
      exact Or.inr ⟨q, mq, Or.inr ⟨rfl, rfl, g1⟩, rfl, g3⟩
    · obtain ⟨q, mq, g1, g2, g3⟩ := untold (nI k)
      rw [q2, pu_sb, if_neg (pu_ne1 (by omega)), if_pos (pu_inn (show k < 12 by omega) (by omega)), nI_clamp (by omega), q3, if_neg (show ¬ (1 : Int32) = 0 by decide), g2]
      exact Or.inr ⟨q, mq, Or.inr ⟨rfl, rfl, g1⟩, rfl, g3⟩
end PX
