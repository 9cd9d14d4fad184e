/-! remove, move -/
section
variable {T : qt_T} {mu ju : Nat → Bool} {ac ep : Nat} {to : Nat → Bool} {pr ba le : Nat → Nat} {lg : Nat → Nat → qt_R} {nu : Nat → Bool} {st un : Nat → Nat} {ua : Nat → Int32}
theorem xm_writeRecord1 {u : SX} (h : sx_T T u) (hI : qt_iv T) (hL : sx_L (mu, ju, ac, ep, to, pr, ba, le, lg) u) (hD : sx_D (nu, st, un, ua) u) (hac : 0 < ac) {k : Nat} (hiv : lj_iv k (mu, ju, ac, ep, to, pr, ba, le, lg) T) (hrm : lj_rm (mu, ju, ac, ep, to, pr, ba, le, lg) 1) {q a b : Nat} (ho : qt_ok T (ep, q, a, b, 1)) {post : Int32 → SX → Prop}
    (h1 : lj_kept (mu, ju, ac, ep, to, pr, ba, le, lg) = true → ∀ u', sx_T (qt_ap T (ep, q, a, b, 1) (le (lj_src to))) u' → sx_L (lj_wr (mu, ju, ac, ep, to, pr, ba, le, lg) q a b 1) u' → sx_D (nu, st, un, ua) u' → post 1 u')
    (h0 : lj_kept (mu, ju, ac, ep, to, pr, ba, le, lg) = false → ∀ u', sx_T T u' → sx_L (lj_wr (mu, ju, ac, ep, to, pr, ba, le, lg) q a b 1) u' → sx_D (nu, st, un, ua) u' → post 0 u') : wpX_writeRecord post u (nI q) (nI a) (nI b) 0 := by
  have e : (0 : Int32) = qt_m 1 := (qt_ms 0).symm
  have H := xm_writeRecord h hI hL hD hac hiv hrm ho h1 h0
  rw [← e] at H
  exact H
theorem ym_write1 {v : SY} (hL : sy_L (mu, ju, ac, ep, to, pr, ba, le, lg) v) (hD : sy_D (nu, st, un, ua) v) (hl3 : ∀ j, j < 3 → le j ≤ 1000) {q a b : Nat} (ho : qt_rb (ep, q, a, b, 1)) {post : Int32 → SY → Prop}
    (h1 : lj_kept (mu, ju, ac, ep, to, pr, ba, le, lg) = true → ∀ v', sy_L (lj_wr (mu, ju, ac, ep, to, pr, ba, le, lg) q a b 1) v' → sy_D (nu, st, un, ua) v' → post 1 v')
    (h0 : lj_kept (mu, ju, ac, ep, to, pr, ba, le, lg) = false → ∀ v', sy_L (lj_wr (mu, ju, ac, ep, to, pr, ba, le, lg) q a b 1) v' → sy_D (nu, st, un, ua) v' → post 0 v') : wpY_write post v (nI q) (nI a) (nI b) 0 := by
  have e : (0 : Int32) = qt_m 1 := (qt_ms 0).symm
  have H := ym_write hL hD hl3 ho h1 h0
  rw [← e] at H
  exact H
theorem qt_okRemove {n : Nat} (hI : qt_iv T) (he : ep ≤ 512) (h : qt_rm T n) : qt_ok T (ep, 4, n, 0, 1) := by
  refine ⟨he, Or.inr (Or.inr (Or.inr (Or.inr (Or.inl ⟨rfl, h.1, h.2.1, rfl, rfl, ?_⟩))))⟩
  rcases h.2.2 with z | ⟨z1, z2⟩
  · exact Or.inl z
  · refine Or.inr ⟨z1, fun x hx1 hx2 hx3 hx4 => ?_⟩
    have := rd_cn0 z2 x hx2
    unfold qt_ef at this
    exact (of_decide_eq_false this) ⟨hx1, hx3, hx4⟩
theorem xm_remove {k : Nat} {u : SX} (h : sx_T T u) (hI : qt_iv T) (hL : sx_L (mu, ju, ac, ep, to, pr, ba, le, lg) u) (hD : sx_D (nu, st, un, ua) u) (hiv : lj_iv k (mu, ju, ac, ep, to, pr, ba, le, lg) T) (he : ep ≤ 512) {post : Int32 → SX → Prop} {p : Int32} {n : Nat} (hn : ix_c p 12 n)
    (k0 : ac = 0 → post (-1) u) (k1 : 0 < ac → ¬ qt_rm T n → post (-2) u) (k2 : 0 < ac → qt_rm T n → ¬ lj_rm (mu, ju, ac, ep, to, pr, ba, le, lg) 1 → post (-4) u)
    (k3 : 0 < ac → qt_rm T n → lj_rm (mu, ju, ac, ep, to, pr, ba, le, lg) 1 → lj_kept (mu, ju, ac, ep, to, pr, ba, le, lg) = true → ∀ u', sx_T (qt_ap T (ep, 4, n, 0, 1) (le (lj_src to))) u' → sx_L (lj_wr (mu, ju, ac, ep, to, pr, ba, le, lg) 4 n 0 1) u' → sx_D (nu, st, un, ua) u' → post 0 u')
    (k4 : 0 < ac → qt_rm T n → lj_rm (mu, ju, ac, ep, to, pr, ba, le, lg) 1 → lj_kept (mu, ju, ac, ep, to, pr, ba, le, lg) = false → ∀ u', sx_T T u' → sx_L (lj_wr (mu, ju, ac, ep, to, pr, ba, le, lg) 4 n 0 1) u' → sx_D (nu, st, un, ua) u' → post (-3) u') : wpX_remove post u p := by
  obtain ⟨f_active, f_epoch, a_dataNodeDown, a_journalDown, a_masterDown, a_inTouch, a_promise, a_base, a_logLength, a_logEpoch, a_logKind, a_logA, a_logB, a_logC, a_inodeState, a_inodePlace, a_inodeClient, a_closeUnits, a_rowLength, a_rowBlock, a_blockStamp, a_replicaHeld, a_replicaStamp, a_unitCount, a_unitValue⟩ := u
  have i5 := hiv.2.2.2.2.1
  refine cd_if (xm_act hL.1 hiv.2.1) k0 (fun za => ?_)
  have ha : 0 < ac := by omega
  refine xm_canBeRemoved (u := (f_active, f_epoch, a_dataNodeDown, a_journalDown, a_masterDown, a_inTouch, a_promise, a_base, a_logLength, a_logEpoch, a_logKind, a_logA, a_logB, a_logC, a_inodeState, a_inodePlace, a_inodeClient, a_closeUnits, a_rowLength, a_rowBlock, a_blockStamp, a_replicaHeld, a_replicaStamp, a_unitCount, a_unitValue)) h hI hn (fun hr => br_f bo_1 ?_) (fun hr => br_t rfl (k1 ha hr))
  refine xm_logsLackRoom (u := (f_active, f_epoch, a_dataNodeDown, a_journalDown, a_masterDown, a_inTouch, a_promise, a_base, a_logLength, a_logEpoch, a_logKind, a_logA, a_logB, a_logC, a_inodeState, a_inodePlace, a_inodeClient, a_closeUnits, a_rowLength, a_rowBlock, a_blockStamp, a_replicaHeld, a_replicaStamp, a_unitCount, a_unitValue)) hL (fun j hj => ⟨(i5 j hj).2.1, (i5 j hj).2.2.2⟩) (R := 1) (by decide) (fun z => br_f bo_1 (k2 ha hr z)) (fun z => br_t rfl ?_)
  have e := ix_i hn hr.2.1
  subst e
  refine xm_writeRecord1 (u := (f_active, f_epoch, a_dataNodeDown, a_journalDown, a_masterDown, a_inTouch, a_promise, a_base, a_logLength, a_logEpoch, a_logKind, a_logA, a_logB, a_logC, a_inodeState, a_inodePlace, a_inodeClient, a_closeUnits, a_rowLength, a_rowBlock, a_blockStamp, a_replicaHeld, a_replicaStamp, a_unitCount, a_unitValue)) (q := 4) (b := 0) h hI hL hD ha hiv z (qt_okRemove hI he hr) (fun hk => ?_) (fun hk => ?_)
  · rintro ⟨f_active, f_epoch, a_dataNodeDown, a_journalDown, a_masterDown, a_inTouch, a_promise, a_base, a_logLength, a_logEpoch, a_logKind, a_logA, a_logB, a_logC, a_inodeState, a_inodePlace, a_inodeClient, a_closeUnits, a_rowLength, a_rowBlock, a_blockStamp, a_replicaHeld, a_replicaStamp, a_unitCount, a_unitValue⟩ g1 g2 g3
    exact br_f bo_1 (k3 ha hr z hk _ g1 g2 g3)
  · rintro ⟨f_active, f_epoch, a_dataNodeDown, a_journalDown, a_masterDown, a_inTouch, a_promise, a_base, a_logLength, a_logEpoch, a_logKind, a_logA, a_logB, a_logC, a_inodeState, a_inodePlace, a_inodeClient, a_closeUnits, a_rowLength, a_rowBlock, a_blockStamp, a_replicaHeld, a_replicaStamp, a_unitCount, a_unitValue⟩ g1 g2 g3
    exact br_t rfl (k4 ha hr z hk _ g1 g2 g3)
theorem ym_remove {k : Nat} {v : SY} (hI : qt_iv T) (hL : sy_L (mu, ju, ac, ep, to, pr, ba, le, lg) v) (hD : sy_D (nu, st, un, ua) v) (hiv : lj_iv k (mu, ju, ac, ep, to, pr, ba, le, lg) T) (he : ep ≤ 512) {post : Int32 → SY → Prop} {p : Int32} {n : Nat} (hn : ix_c p 12 n)
    (k0 : ac = 0 → post (-1) v) (k1 : 0 < ac → ¬ qt_rm T n → ∀ v', sy_L (mu, ju, ac, ep, to, pr, ba, le, lg) v' → sy_D (nu, st, un, ua) v' → post (-2) v') (k2 : 0 < ac → qt_rm T n → ¬ lj_rm (mu, ju, ac, ep, to, pr, ba, le, lg) 1 → ∀ v', sy_L (mu, ju, ac, ep, to, pr, ba, le, lg) v' → sy_D (nu, st, un, ua) v' → post (-4) v')
    (k3 : 0 < ac → qt_rm T n → lj_rm (mu, ju, ac, ep, to, pr, ba, le, lg) 1 → lj_kept (mu, ju, ac, ep, to, pr, ba, le, lg) = true → ∀ v', sy_L (lj_wr (mu, ju, ac, ep, to, pr, ba, le, lg) 4 n 0 1) v' → sy_D (nu, st, un, ua) v' → post 0 v')
    (k4 : 0 < ac → qt_rm T n → lj_rm (mu, ju, ac, ep, to, pr, ba, le, lg) 1 → lj_kept (mu, ju, ac, ep, to, pr, ba, le, lg) = false → ∀ v', sy_L (lj_wr (mu, ju, ac, ep, to, pr, ba, le, lg) 4 n 0 1) v' → sy_D (nu, st, un, ua) v' → post (-3) v') : wpY_remove post v p := by
  obtain ⟨f_active, f_epoch, a_nodeUp, a_journalUp, a_masterUp, a_touch, a_log, a_many, a_promise, a_base, a_stamp, a_units, a_unit, a_sort, a_placeOf, a_client, a_rowLength, a_row, a_closedWith, a_stampOf⟩ := v
  have i5 := hiv.2.2.2.2.1
  refine cd_if (ym_act hL.1 hiv.2.1) (fun ha => ym_tell (v := (f_active, f_epoch, a_nodeUp, a_journalUp, a_masterUp, a_touch, a_log, a_many, a_promise, a_base, a_stamp, a_units, a_unit, a_sort, a_placeOf, a_client, a_rowLength, a_row, a_closedWith, a_stampOf)) hL hD (fun j hj => ⟨(i5 j hj).1, (i5 j hj).2.2.2⟩) ?_) (fun za => k0 (by omega))
  rintro ⟨f_active, f_epoch, a_nodeUp, a_journalUp, a_masterUp, a_touch, a_log, a_many, a_promise, a_base, a_stamp, a_units, a_unit, a_sort, a_placeOf, a_client, a_rowLength, a_row, a_closedWith, a_stampOf⟩ gT gL gD
  rw [← (hiv.2.2.2.2.2 ha).2.2] at gT
  have rest : qt_rm T n → wY_remove_62 post p 1 f_active f_epoch a_nodeUp a_journalUp a_masterUp a_touch a_log a_many a_promise a_base a_stamp a_units a_unit a_sort a_placeOf a_client a_rowLength a_row a_closedWith a_stampOf := by
    intro hr
    refine br_f bo_1 (ym_tooMany (v := (f_active, f_epoch, a_nodeUp, a_journalUp, a_masterUp, a_touch, a_log, a_many, a_promise, a_base, a_stamp, a_units, a_unit, a_sort, a_placeOf, a_client, a_rowLength, a_row, a_closedWith, a_stampOf)) gL (fun j hj => ⟨(i5 j hj).2.1, (i5 j hj).2.2.2⟩) (R := 1) (by decide) (fun z => br_f bo_1 (k2 ha hr z _ gL gD)) (fun z => br_t rfl ?_))
    have e := ix_i hn hr.2.1
    subst e
    have hr1 := hr.2.1
    refine ym_write1 (v := (f_active, f_epoch, a_nodeUp, a_journalUp, a_masterUp, a_touch, a_log, a_many, a_promise, a_base, a_stamp, a_units, a_unit, a_sort, a_placeOf, a_client, a_rowLength, a_row, a_closedWith, a_stampOf)) (q := 4) (b := 0) gL gD (fun j hj => (i5 j hj).2.2.2) (qt_rbI he (by decide) (by omega) (by decide) (by decide)) (fun hk => ?_) (fun hk => ?_)
    · rintro ⟨f_active, f_epoch, a_nodeUp, a_journalUp, a_masterUp, a_touch, a_log, a_many, a_promise, a_base, a_stamp, a_units, a_unit, a_sort, a_placeOf, a_client, a_rowLength, a_row, a_closedWith, a_stampOf⟩ g2 g3
      exact br_f bo_1 (k3 ha hr z hk _ g2 g3)
    · rintro ⟨f_active, f_epoch, a_nodeUp, a_journalUp, a_masterUp, a_touch, a_log, a_many, a_promise, a_base, a_stamp, a_units, a_unit, a_sort, a_placeOf, a_client, a_rowLength, a_row, a_closedWith, a_stampOf⟩ g2 g3
      exact br_t rfl (k4 ha hr z hk _ g2 g3)
  refine ym_in hn (by decide) rfl (fun hlt => br_f bo_1 ?_) (fun e => br_t rfl (k1 ha (fun z => by have := z.2.1; omega) _ gL gD))
  have e := ix_i hn hlt
  subst e
  have hb := qt_iv3 hI n hlt
  have hv := vp_in_nI hlt (by decide : 12 < 2 ^ 31)
  refine cd_if (nI_eq (b := 0) (by omega) (by decide)) (fun z => k1 ha (fun y => by have := y.1; omega) _ gL gD) (fun z => ⟨hv, cd_if (cd_e (c := 3) (qt_ag1 gT n hlt) (by omega) (by omega) (by decide)) (fun y => rest ⟨by omega, hlt, Or.inl y⟩) (fun y => ⟨hv, cd_if (cd_e (c := 1) (qt_ag1 gT n hlt) (by omega) (by omega) (by decide)) (fun x => ?_) (fun x => br_t rfl (k1 ha (fun w => ?_) _ gL gD))⟩)⟩)
  · have hc := rd_cnL (qt_ef T n) 12
    refine ym_inside (v := (f_active, f_epoch, a_nodeUp, a_journalUp, a_masterUp, a_touch, a_log, a_many, a_promise, a_base, a_stamp, a_units, a_unit, a_sort, a_placeOf, a_client, a_rowLength, a_row, a_closedWith, a_stampOf)) gT hI hlt (cd_if (nI_eq (b := 0) (by omega) (by decide)) (fun w => rest ⟨by omega, hlt, Or.inr ⟨x, w⟩⟩) (fun w => br_t rfl (k1 ha (fun q => ?_) _ gL gD)))
    rcases q.2.2 with q | q
    · exact y q
    · exact w q.2
  · rcases w.2.2 with q | q
    · exact y q
    · exact x q.1
/-- the move may be made -/
def qt_mv (T : qt_T) (i d x : Nat) : Prop := 1 ≤ i ∧ i < 12 ∧ qt_so T i ≠ 0 ∧ qt_fr T d x ∧ ∀ n, qt_an (qt_pl T) n d ≠ i
theorem qt_okMove {i d x : Nat} (he : ep ≤ 512) (h : qt_mv T i d x) : qt_ok T (ep, 5, i, 8 * d + x, 1) := by
  obtain ⟨h1, h2, h3, ⟨f1, f2, f3, f4⟩, h5⟩ := h
  have e : (8 * d + x) / 8 = d := by omega
  refine ⟨he, Or.inr (Or.inr (Or.inr (Or.inr (Or.inr ⟨rfl, h1, h2, h3, by omega, ?_, rfl, ?_⟩))))⟩
  · rw [e]; exact f3
  · rw [e]; exact h5
theorem xm_move {k : Nat} {u : SX} (h : sx_T T u) (hI : qt_iv T) (hL : sx_L (mu, ju, ac, ep, to, pr, ba, le, lg) u) (hD : sx_D (nu, st, un, ua) u) (hiv : lj_iv k (mu, ju, ac, ep, to, pr, ba, le, lg) T) (he : ep ≤ 512) {post : Int32 → SX → Prop} {p q r : Int32} {i d x : Nat} (hi : ix_c p 12 i) (hd : ix_c q 12 d) (hx : ix_c r 8 x)
    (k0 : ac = 0 → post (-1) u) (k1 : 0 < ac → ¬ qt_mv T i d x → post (-2) u) (k2 : 0 < ac → qt_mv T i d x → ¬ lj_rm (mu, ju, ac, ep, to, pr, ba, le, lg) 1 → post (-4) u)
    (k3 : 0 < ac → qt_mv T i d x → lj_rm (mu, ju, ac, ep, to, pr, ba, le, lg) 1 → lj_kept (mu, ju, ac, ep, to, pr, ba, le, lg) = true → ∀ u', sx_T (qt_ap T (ep, 5, i, 8 * d + x, 1) (le (lj_src to))) u' → sx_L (lj_wr (mu, ju, ac, ep, to, pr, ba, le, lg) 5 i (8 * d + x) 1) u' → sx_D (nu, st, un, ua) u' → post 0 u')
    (k4 : 0 < ac → qt_mv T i d x → lj_rm (mu, ju, ac, ep, to, pr, ba, le, lg) 1 → lj_kept (mu, ju, ac, ep, to, pr, ba, le, lg) = false → ∀ u', sx_T T u' → sx_L (lj_wr (mu, ju, ac, ep, to, pr, ba, le, lg) 5 i (8 * d + x) 1) u' → sx_D (nu, st, un, ua) u' → post (-3) u') : wpX_move post u p q r := by
  obtain ⟨f_active, f_epoch, a_dataNodeDown, a_journalDown, a_masterDown, a_inTouch, a_promise, a_base, a_logLength, a_logEpoch, a_logKind, a_logA, a_logB, a_logC, a_inodeState, a_inodePlace, a_inodeClient, a_closeUnits, a_rowLength, a_rowBlock, a_blockStamp, a_replicaHeld, a_replicaStamp, a_unitCount, a_unitValue⟩ := u
  have i5 := hiv.2.2.2.2.1
  refine cd_if (xm_act hL.1 hiv.2.1) k0 (fun za => ?_)
  have ha : 0 < ac := by omega
  refine xm_isPresent (u := (f_active, f_epoch, a_dataNodeDown, a_journalDown, a_masterDown, a_inTouch, a_promise, a_base, a_logLength, a_logEpoch, a_logKind, a_logA, a_logB, a_logC, a_inodeState, a_inodePlace, a_inodeClient, a_closeUnits, a_rowLength, a_rowBlock, a_blockStamp, a_replicaHeld, a_replicaStamp, a_unitCount, a_unitValue)) h hI hi (fun hlt hs => br_f bo_1 ?_) (fun hs => br_t rfl (k1 ha (fun z => z.2.2.1 (hs z.2.1))))
  have e := ix_i hi hlt
  subst e
  refine cd_if (nI_eq (b := 0) (by omega) (by decide)) (fun z => k1 ha (fun y => by have := y.1; omega)) (fun z => ?_)
  refine xm_isFreePlace (u := (f_active, f_epoch, a_dataNodeDown, a_journalDown, a_masterDown, a_inTouch, a_promise, a_base, a_logLength, a_logEpoch, a_logKind, a_logA, a_logB, a_logC, a_inodeState, a_inodePlace, a_inodeClient, a_closeUnits, a_rowLength, a_rowBlock, a_blockStamp, a_replicaHeld, a_replicaStamp, a_unitCount, a_unitValue)) h hI hd hx (fun hf => br_f bo_1 ?_) (fun hf => br_t rfl (k1 ha (fun y => hf y.2.2.2.1)))
  have e1 := ix_i hd hf.1
  have e2 := ix_i hx hf.2.1
  subst e1 e2
  refine xm_isAtOrBelow (u := (f_active, f_epoch, a_dataNodeDown, a_journalDown, a_masterDown, a_inTouch, a_promise, a_base, a_logLength, a_logEpoch, a_logKind, a_logA, a_logB, a_logC, a_inodeState, a_inodePlace, a_inodeClient, a_closeUnits, a_rowLength, a_rowBlock, a_blockStamp, a_replicaHeld, a_replicaStamp, a_unitCount, a_unitValue)) h hI hf.1 (by rw [hf.2.2.1]; decide) (by omega) hlt (fun y => br_f bo_1 (k1 ha (fun w => w.2.2.2.2 _ y.choose_spec))) (fun y => br_t rfl ?_)
  have hm : qt_mv T i d x := ⟨by omega, hlt, hs, hf, y⟩
  refine xm_logsLackRoom (u := (f_active, f_epoch, a_dataNodeDown, a_journalDown, a_masterDown, a_inTouch, a_promise, a_base, a_logLength, a_logEpoch, a_logKind, a_logA, a_logB, a_logC, a_inodeState, a_inodePlace, a_inodeClient, a_closeUnits, a_rowLength, a_rowBlock, a_blockStamp, a_replicaHeld, a_replicaStamp, a_unitCount, a_unitValue)) hL (fun j hj => ⟨(i5 j hj).2.1, (i5 j hj).2.2.2⟩) (R := 1) (by decide) (fun z => br_f bo_1 (k2 ha hm z)) (fun z => br_t rfl ?_)
  rw [show nI d * 8 + nI x = nI (8 * d + x) from mu_r d 8 x]
  refine xm_writeRecord1 (u := (f_active, f_epoch, a_dataNodeDown, a_journalDown, a_masterDown, a_inTouch, a_promise, a_base, a_logLength, a_logEpoch, a_logKind, a_logA, a_logB, a_logC, a_inodeState, a_inodePlace, a_inodeClient, a_closeUnits, a_rowLength, a_rowBlock, a_blockStamp, a_replicaHeld, a_replicaStamp, a_unitCount, a_unitValue)) (q := 5) h hI hL hD ha hiv z (qt_okMove he hm) (fun hk => ?_) (fun hk => ?_)
  · rintro ⟨f_active, f_epoch, a_dataNodeDown, a_journalDown, a_masterDown, a_inTouch, a_promise, a_base, a_logLength, a_logEpoch, a_logKind, a_logA, a_logB, a_logC, a_inodeState, a_inodePlace, a_inodeClient, a_closeUnits, a_rowLength, a_rowBlock, a_blockStamp, a_replicaHeld, a_replicaStamp, a_unitCount, a_unitValue⟩ g1 g2 g3
    exact br_f bo_1 (k3 ha hm z hk _ g1 g2 g3)
  · rintro ⟨f_active, f_epoch, a_dataNodeDown, a_journalDown, a_masterDown, a_inTouch, a_promise, a_base, a_logLength, a_logEpoch, a_logKind, a_logA, a_logB, a_logC, a_inodeState, a_inodePlace, a_inodeClient, a_closeUnits, a_rowLength, a_rowBlock, a_blockStamp, a_replicaHeld, a_replicaStamp, a_unitCount, a_unitValue⟩ g1 g2 g3
    exact br_t rfl (k4 ha hm z hk _ g1 g2 g3)
theorem ym_move {k : Nat} {v : SY} (hI : qt_iv T) (hL : sy_L (mu, ju, ac, ep, to, pr, ba, le, lg) v) (hD : sy_D (nu, st, un, ua) v) (hiv : lj_iv k (mu, ju, ac, ep, to, pr, ba, le, lg) T) (he : ep ≤ 512) {post : Int32 → SY → Prop} {p q r : Int32} {i d x : Nat} (hi : ix_c p 12 i) (hd : ix_c q 12 d) (hx : ix_c r 8 x)
    (k0 : ac = 0 → post (-1) v) (k1 : 0 < ac → ¬ qt_mv T i d x → ∀ v', sy_L (mu, ju, ac, ep, to, pr, ba, le, lg) v' → sy_D (nu, st, un, ua) v' → post (-2) v') (k2 : 0 < ac → qt_mv T i d x → ¬ lj_rm (mu, ju, ac, ep, to, pr, ba, le, lg) 1 → ∀ v', sy_L (mu, ju, ac, ep, to, pr, ba, le, lg) v' → sy_D (nu, st, un, ua) v' → post (-4) v')
    (k3 : 0 < ac → qt_mv T i d x → lj_rm (mu, ju, ac, ep, to, pr, ba, le, lg) 1 → lj_kept (mu, ju, ac, ep, to, pr, ba, le, lg) = true → ∀ v', sy_L (lj_wr (mu, ju, ac, ep, to, pr, ba, le, lg) 5 i (8 * d + x) 1) v' → sy_D (nu, st, un, ua) v' → post 0 v')
    (k4 : 0 < ac → qt_mv T i d x → lj_rm (mu, ju, ac, ep, to, pr, ba, le, lg) 1 → lj_kept (mu, ju, ac, ep, to, pr, ba, le, lg) = false → ∀ v', sy_L (lj_wr (mu, ju, ac, ep, to, pr, ba, le, lg) 5 i (8 * d + x) 1) v' → sy_D (nu, st, un, ua) v' → post (-3) v') : wpY_move post v p q r := by
  obtain ⟨f_active, f_epoch, a_nodeUp, a_journalUp, a_masterUp, a_touch, a_log, a_many, a_promise, a_base, a_stamp, a_units, a_unit, a_sort, a_placeOf, a_client, a_rowLength, a_row, a_closedWith, a_stampOf⟩ := v
  have i5 := hiv.2.2.2.2.1
  refine cd_if (ym_act hL.1 hiv.2.1) (fun ha => ym_tell (v := (f_active, f_epoch, a_nodeUp, a_journalUp, a_masterUp, a_touch, a_log, a_many, a_promise, a_base, a_stamp, a_units, a_unit, a_sort, a_placeOf, a_client, a_rowLength, a_row, a_closedWith, a_stampOf)) hL hD (fun j hj => ⟨(i5 j hj).1, (i5 j hj).2.2.2⟩) ?_) (fun za => k0 (by omega))
  rintro ⟨f_active, f_epoch, a_nodeUp, a_journalUp, a_masterUp, a_touch, a_log, a_many, a_promise, a_base, a_stamp, a_units, a_unit, a_sort, a_placeOf, a_client, a_rowLength, a_row, a_closedWith, a_stampOf⟩ gT gL gD
  rw [← (hiv.2.2.2.2.2 ha).2.2] at gT
  have body : ∀ f : Int32, (¬ f = 0 ↔ qt_fr T d x) → wpY_in (fun r_44 => (((r_44 = 0 → (post (-2) (f_active, f_epoch, a_nodeUp, a_journalUp, a_masterUp, a_touch, a_log, a_many, a_promise, a_base, a_stamp, a_units, a_unit, a_sort, a_placeOf, a_client, a_rowLength, a_row, a_closedWith, a_stampOf))) ∧ (¬ r_44 = 0 → (((p = 0 → (post (-2) (f_active, f_epoch, a_nodeUp, a_journalUp, a_masterUp, a_touch, a_log, a_many, a_promise, a_base, a_stamp, a_units, a_unit, a_sort, a_placeOf, a_client, a_rowLength, a_row, a_closedWith, a_stampOf))) ∧ (¬ p = 0 → (vp_in p 12 ∧ ((((a_sort p.toNatClampNeg) = 0 → (post (-2) (f_active, f_epoch, a_nodeUp, a_journalUp, a_masterUp, a_touch, a_log, a_many, a_promise, a_base, a_stamp, a_units, a_unit, a_sort, a_placeOf, a_client, a_rowLength, a_row, a_closedWith, a_stampOf))) ∧ (¬ (a_sort p.toNatClampNeg) = 0 → (((f = 0 → (post (-2) (f_active, f_epoch, a_nodeUp, a_journalUp, a_masterUp, a_touch, a_log, a_many, a_promise, a_base, a_stamp, a_units, a_unit, a_sort, a_placeOf, a_client, a_rowLength, a_row, a_closedWith, a_stampOf))) ∧ (¬ f = 0 → (∃ n54 : Nat, wY_move_54 post p q r f_active f_epoch a_nodeUp a_journalUp a_masterUp a_touch a_log a_many a_promise a_base a_stamp a_units a_unit a_sort a_placeOf a_client a_rowLength a_row a_closedWith a_stampOf n54 q))))))))))))))) p 12 := by
    intro f hff
    refine ym_in hi (by decide) rfl (fun hlt => br_f bo_1 ?_) (fun e => br_t rfl (k1 ha (fun z => by have := z.2.1; omega) _ gL gD))
    have e := ix_i hi hlt
    subst e
    have hb := qt_iv3 hI i hlt
    have hv := vp_in_nI hlt (by decide : 12 < 2 ^ 31)
    refine cd_if (nI_eq (b := 0) (by omega) (by decide)) (fun z => k1 ha (fun y => by have := y.1; omega) _ gL gD) (fun z => ⟨hv, cd_if (cd_e (c := 0) (qt_ag1 gT i hlt) (by omega) (by omega) (by decide)) (fun y => k1 ha (fun w => w.2.2.1 y) _ gL gD) (fun y => ?_)⟩)
    refine cd_if (c := f = 0) (d := ¬ qt_fr T d x) ⟨fun w v => hff.mpr v w, fun w => Classical.byContradiction (fun v => w (hff.mp v))⟩ (fun w => k1 ha (fun v => w v.2.2.2.1) _ gL gD) (fun w => ?_)
    have hf : qt_fr T d x := Classical.byContradiction w
    have e1 := ix_i hd hf.1
    have e2 := ix_i hx hf.2.1
    subst e1 e2
    obtain ⟨rk, hr, hrb⟩ := qt_iv7 hI
    have s80 : ∀ x5, x5 < 12 → (x5 = i → ∃ n, qt_an (qt_pl T) n d = i) → (x5 ≠ i → ∀ n, qt_an (qt_pl T) n d ≠ i) → wY_move_80 post (nI i) (nI d) (nI x) (nI x5) f_active f_epoch a_nodeUp a_journalUp a_masterUp a_touch a_log a_many a_promise a_base a_stamp a_units a_unit a_sort a_placeOf a_client a_rowLength a_row a_closedWith a_stampOf := by
      intro x5 hx5 a1 a2
      refine cd_if (nI_eq (by omega) (by omega)) (fun w => k1 ha (fun v => ?_) _ gL gD) (fun w => ?_)
      · obtain ⟨n, hn⟩ := a1 w
        exact v.2.2.2.2 n hn
      · have hm : qt_mv T i d x := ⟨by omega, hlt, y, hf, a2 w⟩
        refine ym_tooMany (v := (f_active, f_epoch, a_nodeUp, a_journalUp, a_masterUp, a_touch, a_log, a_many, a_promise, a_base, a_stamp, a_units, a_unit, a_sort, a_placeOf, a_client, a_rowLength, a_row, a_closedWith, a_stampOf)) gL (fun j hj => ⟨(i5 j hj).2.1, (i5 j hj).2.2.2⟩) (R := 1) (by decide) (fun z => br_f bo_1 (k2 ha hm z _ gL gD)) (fun z => br_t rfl ?_)
        rw [show 8 * nI d + nI x = nI (8 * d + x) from mu_l d 8 x]
        have hf1 := hf.1
        have hf2 := hf.2.1
        refine ym_write1 (v := (f_active, f_epoch, a_nodeUp, a_journalUp, a_masterUp, a_touch, a_log, a_many, a_promise, a_base, a_stamp, a_units, a_unit, a_sort, a_placeOf, a_client, a_rowLength, a_row, a_closedWith, a_stampOf)) (q := 5) gL gD (fun j hj => (i5 j hj).2.2.2) (qt_rbI he (by decide) (by omega) (by omega) (by decide)) (fun hk => ?_) (fun hk => ?_)
        · rintro ⟨f_active, f_epoch, a_nodeUp, a_journalUp, a_masterUp, a_touch, a_log, a_many, a_promise, a_base, a_stamp, a_units, a_unit, a_sort, a_placeOf, a_client, a_rowLength, a_row, a_closedWith, a_stampOf⟩ g2 g3
          exact br_f bo_1 (k3 ha hm z hk _ g2 g3)
        · rintro ⟨f_active, f_epoch, a_nodeUp, a_journalUp, a_masterUp, a_touch, a_log, a_many, a_promise, a_base, a_stamp, a_units, a_unit, a_sort, a_placeOf, a_client, a_rowLength, a_row, a_closedWith, a_stampOf⟩ g2 g3
          exact br_t rfl (k4 ha hm z hk _ g2 g3)
    have key : ∀ k n x5, rk x5 < k → k ≤ n → x5 < 12 → qt_so T x5 ≠ 0 → (∃ m, qt_an (qt_pl T) m d = x5) → (∀ m n : Nat, qt_an (qt_pl T) m d = x5 → (∃ n, qt_an (qt_pl T) n d = i) → ∃ n, qt_an (qt_pl T) n x5 = i) → wY_move_54 post (nI i) (nI d) (nI x) f_active f_epoch a_nodeUp a_journalUp a_masterUp a_touch a_log a_many a_promise a_base a_stamp a_units a_unit a_sort a_placeOf a_client a_rowLength a_row a_closedWith a_stampOf n (nI x5) := by
      intro k
      induction k with
      | zero => intro n x5 hz; omega
      | succ k ih =>
        intro n x5 hrx hn hx5 hsx ⟨m, hm⟩ hback
        obtain ⟨n, rfl⟩ : ∃ n', n = n' + 1 := ⟨n - 1, by omega⟩
        have h0s : ∀ n, qt_an (qt_pl T) n 0 = 0 := by
          intro n
          induction n with
          | zero => rfl
          | succ n ih =>
            rw [qt_anS, show qt_pa (qt_pl T) 0 = 0 by unfold qt_pa; rw [qt_iv2 hI]]
            exact ih
        refine cd_if (nI_eq (b := 0) (by omega) (by decide)) (fun w => s80 x5 hx5 (fun v => ⟨m, by rw [hm, v]⟩) (fun v n hn => ?_)) (fun w => cd_if (nI_eq (by omega) (by omega)) (fun v => s80 x5 hx5 (fun _ => ⟨m, by rw [hm, v]⟩) (fun v' => absurd v v')) (fun v => ⟨vp_in_nI hx5 (by decide), by decide, ?_⟩))
        · obtain ⟨n', hn'⟩ := hback m 0 hm ⟨n, hn⟩
          rw [w, h0s] at hn'
          omega
        · have h6 := qt_iv6 hI x5 (by omega) hx5 hsx
          have e : a_placeOf (nI x5).toNatClampNeg / 8 = nI (qt_pa (qt_pl T) x5) := by
            rw [nI_clamp (by omega), qt_ag2 gT x5 hx5]
            obtain ⟨p, hp⟩ : ∃ p, qt_pl T x5 = p + 1 := ⟨qt_pl T x5 - 1, by omega⟩
            unfold qt_pa
            rw [hp, qt_ms]
            exact pk_div (d := 8) (by omega) (by decide) (by decide)
          have han : ∀ m y, qt_an (qt_pl T) (m + 1) y = qt_pa (qt_pl T) (qt_an (qt_pl T) m y) := by
            intro m
            induction m with
            | zero => intro y; rfl
            | succ m ih => intro y; rw [qt_anS, ih, ← qt_anS]
          refine nm_r e (ih n _ ?_ (by omega) (by unfold qt_pa; omega) (by rw [h6.2.2]; decide) ⟨m + 1, by rw [han, hm]⟩ (fun m' n' hm' hex => ?_))
          · have := hr x5 (by omega) hx5 hsx; omega
          · obtain ⟨n2, hn2⟩ := hback m 0 hm hex
            cases n2 with
            | zero => exact absurd hn2 v
            | succ n2 => exact ⟨n2, hn2⟩
    exact ⟨12, key 12 12 d (hrb d hf.1) (by omega) hf.1 (by rw [hf.2.2.1]; decide) ⟨0, rfl⟩ (fun m n _ hex => hex)⟩
  exact ym_isFree (v := (f_active, f_epoch, a_nodeUp, a_journalUp, a_masterUp, a_touch, a_log, a_many, a_promise, a_base, a_stamp, a_units, a_unit, a_sort, a_placeOf, a_client, a_rowLength, a_row, a_closedWith, a_stampOf)) gT hI hd hx (fun hf => body 1 ⟨fun _ => hf, fun _ => bo_1⟩) (fun hf => body 0 ⟨fun z => absurd rfl z, fun z => absurd z hf⟩)
end
theorem i_vc_remove {k : Nat} {u : SX} {v : SY} (I : i_Rel k u v) (hk : k + 4 ≤ 2048) (v1 : Int32) : wpX_remove (fun r u' => wpY_remove (fun r' v' => r' = r ∧ i_Rel (k + 4) u' v') v v1) u v1 := by
  have I' := i_up I
  obtain ⟨T, ⟨mu, ju, ac, ep, to, pr, ba, le, lg⟩, ⟨nu, st, un, ua⟩, h1, h2, h3, h4, h5, h6, h7, h8⟩ := I
  have he : ep ≤ 512 := rl_ep h7 (by omega)
  obtain ⟨n, hn⟩ := ix_e v1 (N := 12) (by decide)
  have R0 : ∀ v', sy_L (mu, ju, ac, ep, to, pr, ba, le, lg) v' → sy_D (nu, st, un, ua) v' → i_Rel (k + 4) u v' := fun v' g1 g2 => ⟨T, _, _, h1, h2, h3, g1, g2, h6, lj_ivK (by omega) h7, h8⟩
  refine xm_remove h1 h6 h2 h3 h7 he hn (fun a => ?_) (fun a b => ?_) (fun a b e => ?_) (fun a b g hkp u' g1 g2 g3 => ?_) (fun a b g hkp u' g1 g2 g3 => ?_)
  · exact ym_remove h6 h4 h5 h7 he hn (fun _ => ⟨rfl, I'⟩) (by intros; omega) (by intros; omega) (by intros; omega) (by intros; omega)
  · exact ym_remove h6 h4 h5 h7 he hn (by intros; omega) (fun _ _ v' m1 m2 => ⟨rfl, R0 v' m1 m2⟩) (by intros; contradiction) (by intros; contradiction) (by intros; contradiction)
  · exact ym_remove h6 h4 h5 h7 he hn (by intros; omega) (by intros; contradiction) (fun _ _ _ v' m1 m2 => ⟨rfl, R0 v' m1 m2⟩) (by intros; contradiction) (by intros; contradiction)
  · have ho := qt_okRemove h6 he b
    have W := lj_wrI h7 a g ho
    rw [if_pos hkp] at W
    have hlen : lj_len (mu, ju, ac, ep, to, pr, ba, le, lg) < 1000 := lj_rmL h7 a g
    exact ym_remove h6 h4 h5 h7 he hn (by intros; omega) (by intros; contradiction) (by intros; contradiction) (fun _ _ _ _ v' m1 m2 => ⟨rfl, _, _, _, g1, g2, g3, m1, m2, qt_ivAp h6 ho hlen, lj_ivK (by omega) W, rd_wrI h7 a (fun c hc => by have := rd_ivS h8 a c hc; omega) h8.2⟩) (by intros; simp_all)
  · have ho := qt_okRemove h6 he b
    have W := lj_wrI h7 a g ho
    rw [if_neg (by rw [hkp]; decide)] at W
    exact ym_remove h6 h4 h5 h7 he hn (by intros; omega) (by intros; contradiction) (by intros; contradiction) (by intros; simp_all) (fun _ _ _ _ v' m1 m2 => ⟨rfl, _, _, _, g1, g2, g3, m1, m2, h6, lj_ivK (by omega) W, rd_wrI h7 a (fun c hc => by have := rd_ivS h8 a c hc; omega) h8.2⟩)
theorem i_vc_move {k : Nat} {u : SX} {v : SY} (I : i_Rel k u v) (hk : k + 4 ≤ 2048) (v1 : Int32) (v2 : Int32) (v3 : Int32) : wpX_move (fun r u' => wpY_move (fun r' v' => r' = r ∧ i_Rel (k + 4) u' v') v v1 v2 v3) u v1 v2 v3 := by
  have I' := i_up I
  obtain ⟨T, ⟨mu, ju, ac, ep, to, pr, ba, le, lg⟩, ⟨nu, st, un, ua⟩, h1, h2, h3, h4, h5, h6, h7, h8⟩ := I
  have he : ep ≤ 512 := rl_ep h7 (by omega)
  obtain ⟨i, hi⟩ := ix_e v1 (N := 12) (by decide)
  obtain ⟨d, hd⟩ := ix_e v2 (N := 12) (by decide)
  obtain ⟨x, hx⟩ := ix_e v3 (N := 8) (by decide)
  have R0 : ∀ v', sy_L (mu, ju, ac, ep, to, pr, ba, le, lg) v' → sy_D (nu, st, un, ua) v' → i_Rel (k + 4) u v' := fun v' g1 g2 => ⟨T, _, _, h1, h2, h3, g1, g2, h6, lj_ivK (by omega) h7, h8⟩
  refine xm_move h1 h6 h2 h3 h7 he hi hd hx (fun a => ?_) (fun a b => ?_) (fun a b e => ?_) (fun a b g hkp u' g1 g2 g3 => ?_) (fun a b g hkp u' g1 g2 g3 => ?_)
  · exact ym_move h6 h4 h5 h7 he hi hd hx (fun _ => ⟨rfl, I'⟩) (by intros; omega) (by intros; omega) (by intros; omega) (by intros; omega)
  · exact ym_move h6 h4 h5 h7 he hi hd hx (by intros; omega) (fun _ _ v' m1 m2 => ⟨rfl, R0 v' m1 m2⟩) (by intros; contradiction) (by intros; contradiction) (by intros; contradiction)
  · exact ym_move h6 h4 h5 h7 he hi hd hx (by intros; omega) (by intros; contradiction) (fun _ _ _ v' m1 m2 => ⟨rfl, R0 v' m1 m2⟩) (by intros; contradiction) (by intros; contradiction)
  · have ho := qt_okMove he b
    have W := lj_wrI h7 a g ho
    rw [if_pos hkp] at W
    have hlen : lj_len (mu, ju, ac, ep, to, pr, ba, le, lg) < 1000 := lj_rmL h7 a g
    exact ym_move h6 h4 h5 h7 he hi hd hx (by intros; omega) (by intros; contradiction) (by intros; contradiction) (fun _ _ _ _ v' m1 m2 => ⟨rfl, _, _, _, g1, g2, g3, m1, m2, qt_ivAp h6 ho hlen, lj_ivK (by omega) W, rd_wrI h7 a (fun c hc => by have := rd_ivS h8 a c hc; omega) h8.2⟩) (by intros; simp_all)
  · have ho := qt_okMove he b
    have W := lj_wrI h7 a g ho
    rw [if_neg (by rw [hkp]; decide)] at W
    exact ym_move h6 h4 h5 h7 he hi hd hx (by intros; omega) (by intros; contradiction) (by intros; contradiction) (by intros; simp_all) (fun _ _ _ _ v' m1 m2 => ⟨rfl, _, _, _, g1, g2, g3, m1, m2, h6, lj_ivK (by omega) W, rd_wrI h7 a (fun c hc => by have := rd_ivS h8 a c hc; omega) h8.2⟩)
