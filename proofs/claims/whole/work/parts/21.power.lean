/-! fold, power -/
def bo_u (f : Nat → Bool) (k : Nat) (x : Bool) : Nat → Bool := fun j => if j = k then x else f j
theorem bo_us {f : Nat → Bool} {k : Nat} {x : Bool} : bo_u f k x k = x := if_pos rfl
theorem bo_un {f : Nat → Bool} {k j : Nat} {x : Bool} (h : j ≠ k) : bo_u f k x j = f j := if_neg h
section
variable {T : qt_T} {mu ju : Nat → Bool} {ac ep : Nat} {to : Nat → Bool} {pr ba le : Nat → Nat} {lg : Nat → Nat → qt_R} {nu : Nat → Bool} {st un : Nat → Nat} {ua : Nat → Int32}
theorem xm_swD {u : SX} (h : sx_T T u) (hL : sx_L (mu, ju, ac, ep, to, pr, ba, le, lg) u) (hD : sx_D (nu, st, un, ua) u) {post : Int32 → SX → Prop} {p : Int32} {n : Nat} {up : Bool} (hn : ix_c p 5 n) (h0 : ¬ (n < 5 ∧ nu n ≠ up) → post 0 u) (h1 : n < 5 → nu n ≠ up → ∀ u', sx_T T u' → sx_L (mu, ju, ac, ep, to, pr, ba, le, lg) u' → sx_D (bo_u nu n up, st, un, ua) u' → post 1 u') : wpX_switchPower__dataNodeDown post u 5 p (bo_p up) := by
  obtain ⟨f_active, f_epoch, a_dataNodeDown, a_journalDown, a_masterDown, a_inTouch, a_promise, a_base, a_logLength, a_logEpoch, a_logKind, a_logA, a_logB, a_logC, a_inodeState, a_inodePlace, a_inodeClient, a_closeUnits, a_rowLength, a_rowBlock, a_blockStamp, a_replicaHeld, a_replicaStamp, a_unitCount, a_unitValue⟩ := u
  obtain ⟨l1, l2, l3, l4, l5, l6, l7, l8, l9⟩ := hL
  obtain ⟨d1, d2, d3, d4, d5⟩ := hD
  have h' : qt_ag True T a_inodeState a_inodePlace a_inodeClient a_closeUnits a_rowLength a_rowBlock a_blockStamp := h
  refine ix_t hn rfl (by decide) (fun hlt e => ?_) (fun e => h0 (fun z => by have := z.1; omega))
  subst e
  have hv := vp_in_nI hlt (by decide : 5 < 2 ^ 31)
  have hc : (nI n).toNatClampNeg = n := nI_clamp (by omega)
  refine ⟨hv, cd_if (show a_dataNodeDown (nI n).toNatClampNeg = bo_p up ↔ nu n ≠ up by rw [hc, d1 n hlt]; cases nu n <;> cases up <;> decide) (fun z => ?_) (fun z => h0 (fun y => z y.2))⟩
  have hu : ∀ j, j < 5 → upd a_dataNodeDown n (bo_n up) j = bo_n (bo_u nu n up j) := by
    intro j hj
    by_cases y : j = n
    · subst y; rw [pk_us, bo_us]
    · rw [pk_un y, bo_un y]; exact d1 j hj
  cases up with
  | false =>
    refine br_t rfl ⟨hv, nm_e ?_⟩
    rw [hc]
    exact h1 hlt z _ h' ⟨l1, l2, l3, l4, l5, l6, l7, l8, l9⟩ ⟨hu, d2, d3, d4, d5⟩
  | true =>
    refine br_f (by decide) ⟨hv, nm_e ?_⟩
    rw [hc]
    exact h1 hlt z _ h' ⟨l1, l2, l3, l4, l5, l6, l7, l8, l9⟩ ⟨hu, d2, d3, d4, d5⟩
theorem xm_swJ {u : SX} (h : sx_T T u) (hL : sx_L (mu, ju, ac, ep, to, pr, ba, le, lg) u) (hD : sx_D (nu, st, un, ua) u) {post : Int32 → SX → Prop} {p : Int32} {n : Nat} {up : Bool} (hn : ix_c p 3 n) (h0 : ¬ (n < 3 ∧ ju n ≠ up) → post 0 u) (h1 : n < 3 → ju n ≠ up → ∀ u', sx_T T u' → sx_L (mu, bo_u ju n up, ac, ep, to, pr, ba, le, lg) u' → sx_D (nu, st, un, ua) u' → post 1 u') : wpX_switchPower__journalDown post u 3 p (bo_p up) := by
  obtain ⟨f_active, f_epoch, a_dataNodeDown, a_journalDown, a_masterDown, a_inTouch, a_promise, a_base, a_logLength, a_logEpoch, a_logKind, a_logA, a_logB, a_logC, a_inodeState, a_inodePlace, a_inodeClient, a_closeUnits, a_rowLength, a_rowBlock, a_blockStamp, a_replicaHeld, a_replicaStamp, a_unitCount, a_unitValue⟩ := u
  obtain ⟨l1, l2, l3, l4, l5, l6, l7, l8, l9⟩ := hL
  obtain ⟨d1, d2, d3, d4, d5⟩ := hD
  have h' : qt_ag True T a_inodeState a_inodePlace a_inodeClient a_closeUnits a_rowLength a_rowBlock a_blockStamp := h
  refine ix_t hn rfl (by decide) (fun hlt e => ?_) (fun e => h0 (fun z => by have := z.1; omega))
  subst e
  have hv := vp_in_nI hlt (by decide : 3 < 2 ^ 31)
  have hc : (nI n).toNatClampNeg = n := nI_clamp (by omega)
  refine ⟨hv, cd_if (show a_journalDown (nI n).toNatClampNeg = bo_p up ↔ ju n ≠ up by rw [hc, l3 n hlt]; cases ju n <;> cases up <;> decide) (fun z => ?_) (fun z => h0 (fun y => z y.2))⟩
  have hu : ∀ j, j < 3 → upd a_journalDown n (bo_n up) j = bo_n (bo_u ju n up j) := by
    intro j hj
    by_cases y : j = n
    · subst y; rw [pk_us, bo_us]
    · rw [pk_un y, bo_un y]; exact l3 j hj
  cases up with
  | false =>
    refine br_t rfl ⟨hv, nm_e ?_⟩
    rw [hc]
    exact h1 hlt z _ h' ⟨l1, l2, hu, l4, l5, l6, l7, l8, l9⟩ ⟨d1, d2, d3, d4, d5⟩
  | true =>
    refine br_f (by decide) ⟨hv, nm_e ?_⟩
    rw [hc]
    exact h1 hlt z _ h' ⟨l1, l2, hu, l4, l5, l6, l7, l8, l9⟩ ⟨d1, d2, d3, d4, d5⟩
theorem xm_swM {u : SX} (h : sx_T T u) (hL : sx_L (mu, ju, ac, ep, to, pr, ba, le, lg) u) (hD : sx_D (nu, st, un, ua) u) {post : Int32 → SX → Prop} {p : Int32} {n : Nat} {up : Bool} (hn : ix_c p 2 n) (h0 : ¬ (n < 2 ∧ mu n ≠ up) → post 0 u) (h1 : n < 2 → mu n ≠ up → ∀ u', sx_T T u' → sx_L (bo_u mu n up, ju, ac, ep, to, pr, ba, le, lg) u' → sx_D (nu, st, un, ua) u' → post 1 u') : wpX_switchPower__masterDown post u 2 p (bo_p up) := by
  obtain ⟨f_active, f_epoch, a_dataNodeDown, a_journalDown, a_masterDown, a_inTouch, a_promise, a_base, a_logLength, a_logEpoch, a_logKind, a_logA, a_logB, a_logC, a_inodeState, a_inodePlace, a_inodeClient, a_closeUnits, a_rowLength, a_rowBlock, a_blockStamp, a_replicaHeld, a_replicaStamp, a_unitCount, a_unitValue⟩ := u
  obtain ⟨l1, l2, l3, l4, l5, l6, l7, l8, l9⟩ := hL
  obtain ⟨d1, d2, d3, d4, d5⟩ := hD
  have h' : qt_ag True T a_inodeState a_inodePlace a_inodeClient a_closeUnits a_rowLength a_rowBlock a_blockStamp := h
  refine ix_t hn rfl (by decide) (fun hlt e => ?_) (fun e => h0 (fun z => by have := z.1; omega))
  subst e
  have hv := vp_in_nI hlt (by decide : 2 < 2 ^ 31)
  have hc : (nI n).toNatClampNeg = n := nI_clamp (by omega)
  refine ⟨hv, cd_if (show a_masterDown (nI n).toNatClampNeg = bo_p up ↔ mu n ≠ up by rw [hc, l4 n hlt]; cases mu n <;> cases up <;> decide) (fun z => ?_) (fun z => h0 (fun y => z y.2))⟩
  have hu : ∀ j, j < 2 → upd a_masterDown n (bo_n up) j = bo_n (bo_u mu n up j) := by
    intro j hj
    by_cases y : j = n
    · subst y; rw [pk_us, bo_us]
    · rw [pk_un y, bo_un y]; exact l4 j hj
  cases up with
  | false =>
    refine br_t rfl ⟨hv, nm_e ?_⟩
    rw [hc]
    exact h1 hlt z _ h' ⟨l1, l2, l3, hu, l5, l6, l7, l8, l9⟩ ⟨d1, d2, d3, d4, d5⟩
  | true =>
    refine br_f (by decide) ⟨hv, nm_e ?_⟩
    rw [hc]
    exact h1 hlt z _ h' ⟨l1, l2, l3, hu, l5, l6, l7, l8, l9⟩ ⟨d1, d2, d3, d4, d5⟩
/-- what power does: the masters' part -/
def lj_pm (L : lj_L) (n : Nat) (up : Bool) : lj_L :=
  match L with
  | (mu, ju, ac, ep, to, pr, ba, le, lg) => (bo_u mu n up, ju, (if up = false ∧ ac = n + 1 then 0 else ac), ep, to, pr, ba, le, lg)
theorem bo_nar (x : Bool) : narrow .boolean (.int (bo_p x)) = .int (bo_p x) := by cases x <;> rfl
theorem xm_power {u : SX} (h : sx_T T u) (hL : sx_L (mu, ju, ac, ep, to, pr, ba, le, lg) u) (hD : sx_D (nu, st, un, ua) u) (ha : ac ≤ 2) {post : Int32 → SX → Prop} {s p : Int32} {n0 n1 n2 : Nat} {up : Bool} (hn0 : ix_c p 5 n0) (hn1 : ix_c p 3 n1) (hn2 : ix_c p 2 n2)
    (h0 : ¬ (s = 0 ∧ n0 < 5 ∧ nu n0 ≠ up) → ¬ (s = 1 ∧ n1 < 3 ∧ ju n1 ≠ up) → ¬ (s = 2 ∧ n2 < 2 ∧ mu n2 ≠ up) → post 0 u)
    (k0 : s = 0 → n0 < 5 → nu n0 ≠ up → ∀ u', sx_T T u' → sx_L (mu, ju, ac, ep, to, pr, ba, le, lg) u' → sx_D (bo_u nu n0 up, st, un, ua) u' → post 1 u')
    (k1 : s = 1 → n1 < 3 → ju n1 ≠ up → ∀ u', sx_T T u' → sx_L (mu, bo_u ju n1 up, ac, ep, to, pr, ba, le, lg) u' → sx_D (nu, st, un, ua) u' → post 1 u')
    (k2 : s = 2 → n2 < 2 → mu n2 ≠ up → ∀ u', sx_T T u' → sx_L (lj_pm (mu, ju, ac, ep, to, pr, ba, le, lg) n2 up) u' → sx_D (nu, st, un, ua) u' → post 1 u') : wpX_power post u s p (bo_p up) := by
  obtain ⟨f_active, f_epoch, a_dataNodeDown, a_journalDown, a_masterDown, a_inTouch, a_promise, a_base, a_logLength, a_logEpoch, a_logKind, a_logA, a_logB, a_logC, a_inodeState, a_inodePlace, a_inodeClient, a_closeUnits, a_rowLength, a_rowBlock, a_blockStamp, a_replicaHeld, a_replicaStamp, a_unitCount, a_unitValue⟩ := u
  refine cd_if Iff.rfl (fun z0 => ?_) (fun z0 => cd_if Iff.rfl (fun z1 => ?_) (fun z1 => cd_if Iff.rfl (fun z2 => ?_) (fun z2 => h0 (fun y => z0 y.1) (fun y => z1 y.1) (fun y => z2 y.1))))
  · subst z0
    refine xm_swD (u := (f_active, f_epoch, a_dataNodeDown, a_journalDown, a_masterDown, a_inTouch, a_promise, a_base, a_logLength, a_logEpoch, a_logKind, a_logA, a_logB, a_logC, a_inodeState, a_inodePlace, a_inodeClient, a_closeUnits, a_rowLength, a_rowBlock, a_blockStamp, a_replicaHeld, a_replicaStamp, a_unitCount, a_unitValue)) h hL hD hn0 (fun z => ⟨rfl, h0 (fun y => z y.2) (fun y => absurd y.1 (by decide)) (fun y => absurd y.1 (by decide))⟩) (fun a b => ?_)
    rintro ⟨f_active, f_epoch, a_dataNodeDown, a_journalDown, a_masterDown, a_inTouch, a_promise, a_base, a_logLength, a_logEpoch, a_logKind, a_logA, a_logB, a_logC, a_inodeState, a_inodePlace, a_inodeClient, a_closeUnits, a_rowLength, a_rowBlock, a_blockStamp, a_replicaHeld, a_replicaStamp, a_unitCount, a_unitValue⟩ g1 g2 g3
    exact ⟨rfl, k0 rfl a b _ g1 g2 g3⟩
  · subst z1
    refine xm_swJ (u := (f_active, f_epoch, a_dataNodeDown, a_journalDown, a_masterDown, a_inTouch, a_promise, a_base, a_logLength, a_logEpoch, a_logKind, a_logA, a_logB, a_logC, a_inodeState, a_inodePlace, a_inodeClient, a_closeUnits, a_rowLength, a_rowBlock, a_blockStamp, a_replicaHeld, a_replicaStamp, a_unitCount, a_unitValue)) h hL hD hn1 (fun z => ⟨rfl, h0 (fun y => absurd y.1 (by decide)) (fun y => z y.2) (fun y => absurd y.1 (by decide))⟩) (fun a b => ?_)
    rintro ⟨f_active, f_epoch, a_dataNodeDown, a_journalDown, a_masterDown, a_inTouch, a_promise, a_base, a_logLength, a_logEpoch, a_logKind, a_logA, a_logB, a_logC, a_inodeState, a_inodePlace, a_inodeClient, a_closeUnits, a_rowLength, a_rowBlock, a_blockStamp, a_replicaHeld, a_replicaStamp, a_unitCount, a_unitValue⟩ g1 g2 g3
    exact ⟨rfl, k1 rfl a b _ g1 g2 g3⟩
  · subst z2
    refine xm_swM (u := (f_active, f_epoch, a_dataNodeDown, a_journalDown, a_masterDown, a_inTouch, a_promise, a_base, a_logLength, a_logEpoch, a_logKind, a_logA, a_logB, a_logC, a_inodeState, a_inodePlace, a_inodeClient, a_closeUnits, a_rowLength, a_rowBlock, a_blockStamp, a_replicaHeld, a_replicaStamp, a_unitCount, a_unitValue)) h hL hD hn2 (fun z => br_t rfl (h0 (fun y => absurd y.1 (by decide)) (fun y => absurd y.1 (by decide)) (fun y => z y.2))) (fun a b => ?_)
    rintro ⟨f_active, f_epoch, a_dataNodeDown, a_journalDown, a_masterDown, a_inTouch, a_promise, a_base, a_logLength, a_logEpoch, a_logKind, a_logA, a_logB, a_logC, a_inodeState, a_inodePlace, a_inodeClient, a_closeUnits, a_rowLength, a_rowBlock, a_blockStamp, a_replicaHeld, a_replicaStamp, a_unitCount, a_unitValue⟩ g1 g2 g3
    have e := ix_i hn2 a
    subst e
    have g1' : qt_ag True T a_inodeState a_inodePlace a_inodeClient a_closeUnits a_rowLength a_rowBlock a_blockStamp := g1
    obtain ⟨d1, d2, d3, d4, d5⟩ := g3
    obtain ⟨l1, l2, l3, l4, l5, l6, l7, l8, l9⟩ := g2
    have ea : f_active = nI n2 ↔ ac = n2 + 1 := by rw [show f_active = qt_m ac from l1, qt_mEn (by omega) (by omega)]
    refine br_f bo_1 ?_
    cases up with
    | false =>
      refine br_t rfl (cd_if ea (fun y => k2 rfl a b _ g1' ⟨?_, l2, l3, l4, l5, l6, l7, l8, l9⟩ ⟨d1, d2, d3, d4, d5⟩) (fun y => k2 rfl a b _ g1' ⟨?_, l2, l3, l4, l5, l6, l7, l8, l9⟩ ⟨d1, d2, d3, d4, d5⟩))
      · rw [if_pos ⟨rfl, y⟩, qt_m0]
      · rw [if_neg (fun w => y w.2)]; exact l1
    | true =>
      refine br_f (by decide) (k2 rfl a b _ g1' ⟨?_, l2, l3, l4, l5, l6, l7, l8, l9⟩ ⟨d1, d2, d3, d4, d5⟩)
      rw [if_neg (fun w => absurd w.1 (by decide))]; exact l1
theorem bo_pp {x y : Bool} : bo_p x = bo_p y ↔ x = y := by cases x <;> cases y <;> decide
theorem ym_power {v : SY} (hL : sy_L (mu, ju, ac, ep, to, pr, ba, le, lg) v) (hD : sy_D (nu, st, un, ua) v) (ha : ac ≤ 2) {post : Int32 → SY → Prop} {s p : Int32} {n0 n1 n2 : Nat} {up : Bool} (hn0 : ix_c p 5 n0) (hn1 : ix_c p 3 n1) (hn2 : ix_c p 2 n2)
    (h0 : ¬ (s = 0 ∧ n0 < 5 ∧ nu n0 ≠ up) → ¬ (s = 1 ∧ n1 < 3 ∧ ju n1 ≠ up) → ¬ (s = 2 ∧ n2 < 2 ∧ mu n2 ≠ up) → post 0 v)
    (k0 : s = 0 → n0 < 5 → nu n0 ≠ up → ∀ v', sy_L (mu, ju, ac, ep, to, pr, ba, le, lg) v' → sy_D (bo_u nu n0 up, st, un, ua) v' → post 1 v')
    (k1 : s = 1 → n1 < 3 → ju n1 ≠ up → ∀ v', sy_L (mu, bo_u ju n1 up, ac, ep, to, pr, ba, le, lg) v' → sy_D (nu, st, un, ua) v' → post 1 v')
    (k2 : s = 2 → n2 < 2 → mu n2 ≠ up → ∀ v', sy_L (lj_pm (mu, ju, ac, ep, to, pr, ba, le, lg) n2 up) v' → sy_D (nu, st, un, ua) v' → post 1 v') : wpY_power post v s p (bo_p up) := by
  obtain ⟨f_active, f_epoch, a_nodeUp, a_journalUp, a_masterUp, a_touch, a_log, a_many, a_promise, a_base, a_stamp, a_units, a_unit, a_sort, a_placeOf, a_client, a_rowLength, a_row, a_closedWith, a_stampOf⟩ := v
  obtain ⟨l1, l2, l3, l4, l5, l6, l7, l8, l9⟩ := hL
  obtain ⟨d1, d2, d3, d4⟩ := hD
  have s63 : ¬ (s = 0 ∧ n0 < 5 ∧ nu n0 ≠ up) → ¬ (s = 1 ∧ n1 < 3 ∧ ju n1 ≠ up) → wY_power_63 post s p (bo_p up) f_active f_epoch a_nodeUp a_journalUp a_masterUp a_touch a_log a_many a_promise a_base a_stamp a_units a_unit a_sort a_placeOf a_client a_rowLength a_row a_closedWith a_stampOf := by
    intro y0 y1
    refine cd_if Iff.rfl (fun z2 => ym_in hn2 (by decide) rfl (fun hlt => br_f bo_1 ?_) (fun e => br_t rfl (h0 y0 y1 (fun y => by omega)))) (fun z2 => h0 y0 y1 (fun y => z2 y.1))
    have e := ix_i hn2 hlt
    subst e
    have hv := vp_in_nI hlt (by decide : 2 < 2 ^ 31)
    have hc : (nI n2).toNatClampNeg = n2 := nI_clamp (by omega)
    refine ⟨hv, cd_if (show a_masterUp (nI n2).toNatClampNeg = bo_p up ↔ mu n2 = up by rw [hc, l4 n2 hlt, bo_pp]) (fun z => h0 y0 y1 (fun y => y.2.2 z)) (fun z => ⟨hv, nm_e ?_⟩)⟩
    rw [hc, bo_vp]
    have hu : ∀ j, j < 2 → upd a_masterUp n2 (bo_p up) j = bo_p (bo_u mu n2 up j) := by
      intro j hj
      by_cases y : j = n2
      · subst y; rw [pk_us, bo_us]
      · rw [pk_un y, bo_un y]; exact l4 j hj
    have ea : f_active = nI n2 ↔ ac = n2 + 1 := by rw [show f_active = qt_m ac from l1, qt_mEn (by omega) (by omega)]
    cases up with
    | false =>
      refine br_t rfl (cd_if ea (fun y => k2 z2 hlt z _ ⟨?_, l2, l3, hu, l5, l6, l7, l8, l9⟩ ⟨d1, d2, d3, d4⟩) (fun y => k2 z2 hlt z _ ⟨?_, l2, l3, hu, l5, l6, l7, l8, l9⟩ ⟨d1, d2, d3, d4⟩))
      · rw [if_pos ⟨rfl, y⟩, qt_m0]
      · rw [if_neg (fun w => y w.2)]; exact l1
    | true =>
      refine br_f (by decide) (k2 z2 hlt z _ ⟨?_, l2, l3, hu, l5, l6, l7, l8, l9⟩ ⟨d1, d2, d3, d4⟩)
      rw [if_neg (fun w => absurd w.1 (by decide))]; exact l1
  have s31 : ¬ (s = 0 ∧ n0 < 5 ∧ nu n0 ≠ up) → wY_power_31 post s p (bo_p up) f_active f_epoch a_nodeUp a_journalUp a_masterUp a_touch a_log a_many a_promise a_base a_stamp a_units a_unit a_sort a_placeOf a_client a_rowLength a_row a_closedWith a_stampOf := by
    intro y0
    refine cd_if Iff.rfl (fun z1 => ym_in hn1 (by decide) rfl (fun hlt => br_f bo_1 ?_) (fun e => br_t rfl (s63 y0 (fun y => by omega)))) (fun z1 => s63 y0 (fun y => z1 y.1))
    have e := ix_i hn1 hlt
    subst e
    have hv := vp_in_nI hlt (by decide : 3 < 2 ^ 31)
    have hc : (nI n1).toNatClampNeg = n1 := nI_clamp (by omega)
    refine ⟨hv, cd_if (show a_journalUp (nI n1).toNatClampNeg = bo_p up ↔ ju n1 = up by rw [hc, l3 n1 hlt, bo_pp]) (fun z => s63 y0 (fun y => y.2.2 z)) (fun z => ⟨hv, nm_e ?_⟩)⟩
    rw [hc, bo_vp]
    refine k1 z1 hlt z _ ⟨l1, l2, ?_, l4, l5, l6, l7, l8, l9⟩ ⟨d1, d2, d3, d4⟩
    intro j hj
    by_cases y : j = n1
    · subst y; rw [pk_us, bo_us]
    · rw [pk_un y, bo_un y]; exact l3 j hj
  refine cd_if Iff.rfl (fun z0 => ym_in hn0 (by decide) rfl (fun hlt => br_f bo_1 ?_) (fun e => br_t rfl (s31 (fun y => by omega)))) (fun z0 => s31 (fun y => z0 y.1))
  have e := ix_i hn0 hlt
  subst e
  have hv := vp_in_nI hlt (by decide : 5 < 2 ^ 31)
  have hc : (nI n0).toNatClampNeg = n0 := nI_clamp (by omega)
  refine ⟨hv, cd_if (show a_nodeUp (nI n0).toNatClampNeg = bo_p up ↔ nu n0 = up by rw [hc, d1 n0 hlt, bo_pp]) (fun z => s31 (fun y => y.2.2 z)) (fun z => ⟨hv, nm_e ?_⟩)⟩
  rw [hc, bo_vp]
  refine k0 z0 hlt z _ ⟨l1, l2, l3, l4, l5, l6, l7, l8, l9⟩ ⟨?_, d2, d3, d4⟩
  intro j hj
  by_cases y : j = n0
  · subst y; rw [pk_us, bo_us]
  · rw [pk_un y, bo_un y]; exact d1 j hj
end
theorem i_vc_power {k : Nat} {u : SX} {v : SY} (I : i_Rel k u v) (hk : k + 4 ≤ 2048) (v1 : Int32) (v2 : Int32) (v3 : Int32) : wpX_power (fun r u' => wpY_power (fun r' v' => r' = r ∧ i_Rel (k + 4) u' v') v v1 v2 (lw_bz v3)) u v1 v2 (lw_bz v3) := by
  have I' := i_up I
  obtain ⟨T, ⟨mu, ju, ac, ep, to, pr, ba, le, lg⟩, ⟨nu, st, un, ua⟩, h1, h2, h3, h4, h5, h6, h7, h8⟩ := I
  have hlen := rl_len h7
  obtain ⟨i1, i2, i3, i4, i5, i6⟩ := h7
  obtain ⟨e1, e2⟩ := h8
  obtain ⟨up, hup⟩ := bo_z v3
  rw [hup]
  obtain ⟨n0, hn0⟩ := ix_e v2 (N := 5) (by decide)
  obtain ⟨n1, hn1⟩ := ix_e v2 (N := 3) (by decide)
  obtain ⟨n2, hn2⟩ := ix_e v2 (N := 2) (by decide)
  refine xm_power h1 h2 h3 i2 hn0 hn1 hn2 (fun a b c => ?_) (fun a b c u' g1 g2 g3 => ?_) (fun a b c u' g1 g2 g3 => ?_) (fun a b c u' g1 g2 g3 => ?_)
  · exact ym_power h4 h5 i2 hn0 hn1 hn2 (fun _ _ _ => ⟨rfl, I'⟩) (fun x y z => absurd ⟨x, y, z⟩ a) (fun x y z => absurd ⟨x, y, z⟩ b) (fun x y z => absurd ⟨x, y, z⟩ c)
  · refine ym_power h4 h5 i2 hn0 hn1 hn2 (fun x _ _ => absurd ⟨a, b, c⟩ x) (fun _ _ _ v' m1 m2 => ⟨rfl, T, _, _, g1, g2, g3, m1, m2, h6, ⟨by omega, i2, i3, i4, i5, i6⟩, ⟨e1, e2⟩⟩) (fun x _ _ => by subst a; exact absurd x (by decide)) (fun x _ _ => by subst a; exact absurd x (by decide))
  · refine ym_power h4 h5 i2 hn0 hn1 hn2 (fun _ x _ => absurd ⟨a, b, c⟩ x) (fun x _ _ => by subst a; exact absurd x (by decide)) (fun _ _ _ v' m1 m2 => ⟨rfl, T, _, _, g1, g2, g3, m1, m2, h6, ⟨by omega, i2, i3, i4, i5, i6⟩, ⟨e1, e2⟩⟩) (fun x _ _ => by subst a; exact absurd x (by decide))
  · refine ym_power h4 h5 i2 hn0 hn1 hn2 (fun _ _ x => absurd ⟨a, b, c⟩ x) (fun x _ _ => by subst a; exact absurd x (by decide)) (fun x _ _ => by subst a; exact absurd x (by decide)) (fun _ _ _ v' m1 m2 => ⟨rfl, T, _, _, g1, g2, g3, m1, m2, h6, ⟨by omega, ?_, i3, i4, i5, ?_⟩, ⟨?_, e2⟩⟩)
    · split <;> omega
    · intro hp
      have hp' : 0 < (if up = false ∧ ac = n2 + 1 then 0 else ac) := hp
      split at hp'
      · omega
      · exact i6 hp'
    · intro c hc
      have hc1 := e1 c hc
      show st c ≤ if 0 < (if up = false ∧ ac = n2 + 1 then 0 else ac) then 2048 * ep + le (lj_src to) else 2048 * (ep + 1)
      have hc2 : st c ≤ if 0 < ac then 2048 * ep + le (lj_src to) else 2048 * (ep + 1) := hc1
      have hl2 : le (lj_src to) ≤ 1000 := hlen
      by_cases hh : up = false ∧ ac = n2 + 1
      · rw [if_pos hh, if_neg (by omega)]
        split at hc2 <;> omega
      · rw [if_neg hh]; exact hc2
