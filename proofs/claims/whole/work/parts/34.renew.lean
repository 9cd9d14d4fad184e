/-! a block is renewed -/
theorem sx_Dc {nu : Nat → Bool} {st un st' un' : Nat → Nat} {ua : Nat → Int32} {u : SX} (h : sx_D (nu, st, un, ua) u) (h1 : ∀ c, c < 80 → st c = st' c) (h2 : ∀ c, c < 80 → un c = un' c) : sx_D (nu, st', un', ua) u := by
  obtain ⟨f_active, f_epoch, a_dataNodeDown, a_journalDown, a_masterDown, a_inTouch, a_promise, a_base, a_logLength, a_logEpoch, a_logKind, a_logA, a_logB, a_logC, a_inodeState, a_inodePlace, a_inodeClient, a_closeUnits, a_rowLength, a_rowBlock, a_blockStamp, a_replicaHeld, a_replicaStamp, a_unitCount, a_unitValue⟩ := u
  obtain ⟨d1, d2, d3, d4, d5⟩ := h
  refine ⟨d1, fun c hc => ?_, fun c hc => ?_, fun c hc => ?_, d5⟩
  · rw [← h1 c hc]; exact d2 c hc
  · rw [← h1 c hc]; exact d3 c hc
  · rw [← h2 c hc]; exact d4 c hc
theorem sy_Dc {nu : Nat → Bool} {st un st' un' : Nat → Nat} {ua : Nat → Int32} {v : SY} (h : sy_D (nu, st, un, ua) v) (h1 : ∀ c, c < 80 → st c = st' c) (h2 : ∀ c, c < 80 → un c = un' c) : sy_D (nu, st', un', ua) v := by
  obtain ⟨f_active, f_epoch, a_nodeUp, a_journalUp, a_masterUp, a_touch, a_log, a_many, a_promise, a_base, a_stamp, a_units, a_unit, a_sort, a_placeOf, a_client, a_rowLength, a_row, a_closedWith, a_stampOf⟩ := v
  obtain ⟨d1, d2, d3, d4⟩ := h
  refine ⟨d1, fun c hc => ?_, fun c hc => ?_, d4⟩
  · rw [← h1 c hc]; exact d2 c hc
  · rw [← h2 c hc]; exact d3 c hc
/-- those of f below d -/
def rd_b (f : Nat → Bool) (d e : Nat) : Bool := f e && decide (e < d)
theorem rd_b5 {f : Nat → Bool} {e : Nat} (h : e < 5) : rd_b f 5 e = f e := by unfold rd_b; simp [h]
theorem rd_b0' {f : Nat → Bool} {e : Nat} : rd_b f 0 e = false := by unfold rd_b; simp
theorem rd_bF {f : Nat → Bool} {d e : Nat} (h : f d = false) : rd_b f (d + 1) e = rd_b f d e := by
  unfold rd_b
  by_cases z : e = d
  · subst z; rw [h]; rfl
  · congr 1; exact decide_eq_decide.mpr (by omega)
theorem rd_bT {f : Nat → Bool} {d e : Nat} (h : f d = true) : rd_b f (d + 1) e = (rd_b f d e || e == d) := by
  unfold rd_b
  by_cases z : e = d
  · subst z; rw [h]; simp
  · have e1 : (e == d) = false := by simpa using z
    rw [e1, Bool.or_false]
    congr 1; exact decide_eq_decide.mpr (by omega)
theorem rd_setT {x : Nat} {f : Nat → Bool} {b : Nat} {g : Nat → Nat} {d c : Nat} (hb : b < 16) (hc : c < 80) (h : f d = true) : rd_set x (rd_b f (d + 1)) b g c = if c = 16 * d + b then x else rd_set x (rd_b f d) b g c := by
  rw [rd_setC (f' := fun y => rd_b f d y || y == d) hc (fun e _ => rd_bT h)]
  exact rd_setS hb
theorem rd_setF {x : Nat} {f : Nat → Bool} {b : Nat} {g : Nat → Nat} {d c : Nat} (hc : c < 80) (h : f d = false) : rd_set x (rd_b f (d + 1)) b g c = rd_set x (rd_b f d) b g c := rd_setC hc (fun e _ => rd_bF h)
theorem ym_tellL {k : Nat} {L : lj_L} {T : qt_T} {nu : Nat → Bool} {st un : Nat → Nat} {ua : Nat → Int32} {v : SY} (hiv : lj_iv k L T) (hL : sy_L L v) (hD : sy_D (nu, st, un, ua) v) {post : SY → Prop} (hp : ∀ v', (0 < lj_ac L → sy_T T v') → sy_L L v' → sy_D (nu, st, un, ua) v' → post v') : wpY_tell post v := by
  obtain ⟨mu, ju, ac, ep, to, pr, ba, le, lg⟩ := L
  refine ym_tell hL hD (fun j hj => ⟨(hiv.2.2.2.2.1 j hj).1, (hiv.2.2.2.2.1 j hj).2.2.2⟩) (fun v' g1 g2 g3 => hp v' (fun ha => ?_) g2 g3)
  rw [(hiv.2.2.2.2.2 ha).2.2]; exact g1
section
variable {T : qt_T} {mu ju : Nat → Bool} {ac ep : Nat} {to : Nat → Bool} {pr ba le : Nat → Nat} {lg : Nat → Nat → qt_R} {nu : Nat → Bool} {st un : Nat → Nat} {ua : Nat → Int32}
theorem qt_okStamp {b : Nat} (he : ep ≤ 512) (hb : b < 16) : qt_ok T (ep, 2, b, 0, 1) := ⟨he, Or.inr (Or.inr (Or.inl ⟨rfl, hb, rfl, rfl⟩))⟩
/-- the replicas behind a renewal -/
def rd_rn (D : rd_D) (f : Nat → Bool) (b s l : Nat) : rd_D := match D with | (nu, st, un, ua) => (nu, rd_set (s + 1) f b st, rd_set l f b un, ua)
theorem xm_renew {k : Nat} {u : SX} (h : sx_T T u) (hI : qt_iv T) (hL : sx_L (mu, ju, ac, ep, to, pr, ba, le, lg) u) (hD : sx_D (nu, st, un, ua) u) (hb : rd_bd (nu, st, un, ua)) (hac : 0 < ac) (hiv : lj_iv k (mu, ju, ac, ep, to, pr, ba, le, lg) T) (he : ep ≤ 512) (hrm : lj_rm (mu, ju, ac, ep, to, pr, ba, le, lg) 1) {post : Int32 → SX → Prop} {b l : Nat} (hb16 : b < 16) (hfw : rd_fw (rd_g nu st b (qt_sp T b)) un b 5 = l + 1)
    (h1 : lj_kept (mu, ju, ac, ep, to, pr, ba, le, lg) = true → ∀ u', sx_T (qt_ap T (ep, 2, b, 0, 1) (le (lj_src to))) u' → sx_L (lj_wr (mu, ju, ac, ep, to, pr, ba, le, lg) 2 b 0 1) u' → sx_D (rd_rn (nu, st, un, ua) (rd_g nu st b (qt_sp T b)) b (2048 * ep + le (lj_src to)) l) u' → post 1 u')
    (h0 : lj_kept (mu, ju, ac, ep, to, pr, ba, le, lg) = false → ∀ u', sx_T T u' → sx_L (lj_wr (mu, ju, ac, ep, to, pr, ba, le, lg) 2 b 0 1) u' → sx_D (rd_rn (nu, st, un, ua) (rd_g nu st b (qt_sp T b)) b (2048 * ep + le (lj_src to)) l) u' → post 0 u') : wpX_renewBlock post u (nI b) := by
  obtain ⟨f_active, f_epoch, a_dataNodeDown, a_journalDown, a_masterDown, a_inTouch, a_promise, a_base, a_logLength, a_logEpoch, a_logKind, a_logA, a_logB, a_logC, a_inodeState, a_inodePlace, a_inodeClient, a_closeUnits, a_rowLength, a_rowBlock, a_blockStamp, a_replicaHeld, a_replicaStamp, a_unitCount, a_unitValue⟩ := u
  unfold wpX_renewBlock
  have h2 := (hiv.2.2.2.2.2 hac).1
  refine xm_goodNodes (u := (f_active, f_epoch, a_dataNodeDown, a_journalDown, a_masterDown, a_inTouch, a_promise, a_base, a_logLength, a_logEpoch, a_logKind, a_logA, a_logB, a_logC, a_inodeState, a_inodePlace, a_inodeClient, a_closeUnits, a_rowLength, a_rowBlock, a_blockStamp, a_replicaHeld, a_replicaStamp, a_unitCount, a_unitValue)) h hI hD hb hb16 (xm_fewestUnits (u := (f_active, f_epoch, a_dataNodeDown, a_journalDown, a_masterDown, a_inTouch, a_promise, a_base, a_logLength, a_logEpoch, a_logKind, a_logA, a_logB, a_logC, a_inodeState, a_inodePlace, a_inodeClient, a_closeUnits, a_rowLength, a_rowBlock, a_blockStamp, a_replicaHeld, a_replicaStamp, a_unitCount, a_unitValue)) h hI hD hb hb16 (xm_nextStamp (u := (f_active, f_epoch, a_dataNodeDown, a_journalDown, a_masterDown, a_inTouch, a_promise, a_base, a_logLength, a_logEpoch, a_logKind, a_logA, a_logB, a_logC, a_inodeState, a_inodePlace, a_inodeClient, a_closeUnits, a_rowLength, a_rowBlock, a_blockStamp, a_replicaHeld, a_replicaStamp, a_unitCount, a_unitValue)) hL h2 ?_))
  rw [hfw, qt_ms]
  have hg0 : ∀ d, d < 5 → rd_g nu st b (qt_sp T b) d = true → st (16 * d + b) ≠ 0 := by
    intro d _ hg
    obtain ⟨g1, g2, g3⟩ := rd_gI.mp hg
    omega
  generalize rd_g nu st b (qt_sp T b) = f at h1 h0 hg0 hfw
  generalize hs : 2048 * ep + le (lj_src to) = s at h1 h0
  have h' : qt_ag True T a_inodeState a_inodePlace a_inodeClient a_closeUnits a_rowLength a_rowBlock a_blockStamp := h
  obtain ⟨l1, l2, l3, l4, l5, l6, l7, l8, l9⟩ := hL
  obtain ⟨d1, d2, d3, d4, d5⟩ := hD
  have key : ∀ k n d, d + k = 5 → k < n → ∀ aS aU : Nat → Int32, (∀ c, c < 80 → rd_set (s + 1) (rd_b f d) b st c ≠ 0 → aS c = nI (rd_set (s + 1) (rd_b f d) b st c - 1)) → (∀ c, c < 80 → aU c = nI (rd_set l (rd_b f d) b un c)) → wX_renewBlock_21 post (nI b) (nI (rd_mk f 5)) (nI l) (nI s) f_active f_epoch n (nI d) a_dataNodeDown a_journalDown a_masterDown a_inTouch a_promise a_base a_logLength a_logEpoch a_logKind a_logA a_logB a_logC a_inodeState a_inodePlace a_inodeClient a_closeUnits a_rowLength a_rowBlock a_blockStamp a_replicaHeld aS aU a_unitValue := by
    intro k
    induction k with
    | zero =>
      intro n d hd hn aS aU HS HU
      obtain ⟨n, rfl⟩ : ∃ n', n = n' + 1 := ⟨n - 1, by omega⟩
      have e : d = 5 := by omega
      subst e
      have hDn : sx_D (rd_rn (nu, st, un, ua) f b s l) (f_active, f_epoch, a_dataNodeDown, a_journalDown, a_masterDown, a_inTouch, a_promise, a_base, a_logLength, a_logEpoch, a_logKind, a_logA, a_logB, a_logC, a_inodeState, a_inodePlace, a_inodeClient, a_closeUnits, a_rowLength, a_rowBlock, a_blockStamp, a_replicaHeld, aS, aU, a_unitValue) := by
        refine sx_Dc (st := rd_set (s + 1) (rd_b f 5) b st) (un := rd_set l (rd_b f 5) b un) ⟨d1, fun c hc => ?_, HS, HU, d5⟩ (fun c hc => rd_setC hc (fun e he => rd_b5 he)) (fun c hc => rd_setC hc (fun e he => rd_b5 he))
        rw [d2 c hc, rd_setC (f' := f) hc (fun e he => rd_b5 he)]
        by_cases z : c % 16 = b ∧ f (c / 16) = true
        · have := hg0 (c / 16) (by omega) z.2
          rw [show 16 * (c / 16) + b = c by omega] at this
          rw [if_neg this]
          unfold rd_set
          rw [if_pos z, if_neg (by omega)]
        · unfold rd_set
          rw [if_neg z]
      refine br_t lb_t (xm_writeRecord1 (u := (f_active, f_epoch, a_dataNodeDown, a_journalDown, a_masterDown, a_inTouch, a_promise, a_base, a_logLength, a_logEpoch, a_logKind, a_logA, a_logB, a_logC, a_inodeState, a_inodePlace, a_inodeClient, a_closeUnits, a_rowLength, a_rowBlock, a_blockStamp, a_replicaHeld, aS, aU, a_unitValue)) (q := 2) (b := 0) h' hI ⟨l1, l2, l3, l4, l5, l6, l7, l8, l9⟩ hDn hac hiv hrm (qt_okStamp he hb16) (fun hk => ?_) (fun hk => ?_))
      · rintro ⟨f_active, f_epoch, a_dataNodeDown, a_journalDown, a_masterDown, a_inTouch, a_promise, a_base, a_logLength, a_logEpoch, a_logKind, a_logA, a_logB, a_logC, a_inodeState, a_inodePlace, a_inodeClient, a_closeUnits, a_rowLength, a_rowBlock, a_blockStamp, a_replicaHeld, a_replicaStamp, a_unitCount, a_unitValue⟩ g1 g2 g3
        exact ⟨rfl, h1 hk _ g1 g2 g3⟩
      · rintro ⟨f_active, f_epoch, a_dataNodeDown, a_journalDown, a_masterDown, a_inTouch, a_promise, a_base, a_logLength, a_logEpoch, a_logKind, a_logA, a_logB, a_logC, a_inodeState, a_inodePlace, a_inodeClient, a_closeUnits, a_rowLength, a_rowBlock, a_blockStamp, a_replicaHeld, a_replicaStamp, a_unitCount, a_unitValue⟩ g1 g2 g3
        exact ⟨rfl, h0 hk _ g1 g2 g3⟩
    | succ k ih =>
      intro n d hd hn aS aU HS HU
      obtain ⟨n, rfl⟩ : ∃ n', n = n' + 1 := ⟨n - 1, by omega⟩
      have hd5 : d < 5 := by omega
      have hc : 16 * d + b < 80 := by omega
      have hv := vp_in_nI hc (by decide : 80 < 2 ^ 31)
      have hcc : (nI (16 * d + b)).toNatClampNeg = 16 * d + b := nI_clamp (by omega)
      refine br_f (lb_f hd5) (xm_isIn hd5 (fun z => br_f bo_1 (nm_r (mu_r d 16 b) ⟨hv, nm_e ⟨hv, nm_e (nm_r (nI_1 d) ?_)⟩⟩)) (fun z => br_t rfl (nm_r (nI_1 d) (ih n (d + 1) (by omega) (by omega) aS aU (fun c hc => ?_) (fun c hc => ?_)))))
      · rw [hcc]
        refine ih n (d + 1) (by omega) (by omega) _ _ (fun c hc => ?_) (fun c hc => ?_)
        · rw [rd_setT hb16 hc z]
          by_cases y : c = 16 * d + b
          · subst y; intro _; rw [pk_us, if_pos rfl]; rfl
          · rw [pk_un y, if_neg y]; exact HS c hc
        · rw [rd_setT hb16 hc z]
          by_cases y : c = 16 * d + b
          · subst y; rw [pk_us, if_pos rfl]
          · rw [pk_un y, if_neg y]; exact HU c hc
      · rw [rd_setF hc z]; exact HS c hc
      · rw [rd_setF hc z]; exact HU c hc
  refine ⟨6, key 5 6 0 (by omega) (by omega) _ _ (fun c hc => ?_) (fun c hc => ?_)⟩
  · rw [rd_setC (f' := fun _ => false) hc (fun e _ => rd_b0'), rd_set0]; exact d3 c hc
  · rw [rd_setC (f' := fun _ => false) hc (fun e _ => rd_b0'), rd_set0]; exact d4 c hc
theorem ym_renew {k : Nat} {v : SY} (h : sy_T T v) (hI : qt_iv T) (hL : sy_L (mu, ju, ac, ep, to, pr, ba, le, lg) v) (hD : sy_D (nu, st, un, ua) v) (hb : rd_bd (nu, st, un, ua)) (hac : 0 < ac) (hiv : lj_iv k (mu, ju, ac, ep, to, pr, ba, le, lg) T) (he : ep ≤ 512) (hrm : lj_rm (mu, ju, ac, ep, to, pr, ba, le, lg) 1) {post : Int32 → SY → Prop} {b l : Nat} (hb16 : b < 16) (hin : qt_in (qt_rl T) (qt_ro T) b) (hfw : rd_fw (rd_g nu st b (qt_sp T b)) un b 5 = l + 1)
    (h1 : lj_kept (mu, ju, ac, ep, to, pr, ba, le, lg) = true → ∀ v', sy_T (qt_ap T (ep, 2, b, 0, 1) (le (lj_src to))) v' → sy_L (lj_wr (mu, ju, ac, ep, to, pr, ba, le, lg) 2 b 0 1) v' → sy_D (rd_rn (nu, st, un, ua) (rd_g nu st b (qt_sp T b)) b (2048 * ep + le (lj_src to)) l) v' → post 1 v')
    (h0 : lj_kept (mu, ju, ac, ep, to, pr, ba, le, lg) = false → ∀ v', sy_L (lj_wr (mu, ju, ac, ep, to, pr, ba, le, lg) 2 b 0 1) v' → sy_D (rd_rn (nu, st, un, ua) (rd_g nu st b (qt_sp T b)) b (2048 * ep + le (lj_src to)) l) v' → post 0 v') : wpY_renew post v (nI b) := by
  obtain ⟨f_active, f_epoch, a_nodeUp, a_journalUp, a_masterUp, a_touch, a_log, a_many, a_promise, a_base, a_stamp, a_units, a_unit, a_sort, a_placeOf, a_client, a_rowLength, a_row, a_closedWith, a_stampOf⟩ := v
  unfold wpY_renew
  have W := lj_wrI (q := 2) (a := b) (b := 0) (c := 1) hiv hac hrm (qt_okStamp he hb16)
  refine ym_goodOnes (v := (f_active, f_epoch, a_nodeUp, a_journalUp, a_masterUp, a_touch, a_log, a_many, a_promise, a_base, a_stamp, a_units, a_unit, a_sort, a_placeOf, a_client, a_rowLength, a_row, a_closedWith, a_stampOf)) h hI hD hb hb16 hin (ym_bound0 (v := (f_active, f_epoch, a_nodeUp, a_journalUp, a_masterUp, a_touch, a_log, a_many, a_promise, a_base, a_stamp, a_units, a_unit, a_sort, a_placeOf, a_client, a_rowLength, a_row, a_closedWith, a_stampOf)) h hI hD hb hb16 hin (ym_nextStamp (v := (f_active, f_epoch, a_nodeUp, a_journalUp, a_masterUp, a_touch, a_log, a_many, a_promise, a_base, a_stamp, a_units, a_unit, a_sort, a_placeOf, a_client, a_rowLength, a_row, a_closedWith, a_stampOf)) hL ?_))
  rw [hfw, qt_ms]
  generalize rd_g nu st b (qt_sp T b) = f at h1 h0 hfw
  generalize hs : 2048 * ep + le (lj_src to) = s at h1 h0
  obtain ⟨l1, l2, l3, l4, l5, l6, l7, l8, l9⟩ := hL
  obtain ⟨d1, d2, d3, d4⟩ := hD
  have key : ∀ k n d, d + k = 5 → k < n → ∀ aS aU : Nat → Int32, (∀ c, c < 80 → aS c = qt_m (rd_set (s + 1) (rd_b f d) b st c)) → (∀ c, c < 80 → aU c = nI (rd_set l (rd_b f d) b un c)) → wY_renew_22 post (nI b) (nI (rd_mk f 5)) (nI l) (nI s) f_active f_epoch n (nI d) a_nodeUp a_journalUp a_masterUp a_touch a_log a_many a_promise a_base aS aU a_unit a_sort a_placeOf a_client a_rowLength a_row a_closedWith a_stampOf := by
    intro k
    induction k with
    | zero =>
      intro n d hd hn aS aU HS HU
      obtain ⟨n, rfl⟩ : ∃ n', n = n' + 1 := ⟨n - 1, by omega⟩
      have e : d = 5 := by omega
      subst e
      have hDn : sy_D (rd_rn (nu, st, un, ua) f b s l) (f_active, f_epoch, a_nodeUp, a_journalUp, a_masterUp, a_touch, a_log, a_many, a_promise, a_base, aS, aU, a_unit, a_sort, a_placeOf, a_client, a_rowLength, a_row, a_closedWith, a_stampOf) := sy_Dc (st := rd_set (s + 1) (rd_b f 5) b st) (un := rd_set l (rd_b f 5) b un) ⟨d1, HS, HU, d4⟩ (fun c hc => rd_setC hc (fun e he => rd_b5 he)) (fun c hc => rd_setC hc (fun e he => rd_b5 he))
      refine br_t lb_t (ym_write1 (v := (f_active, f_epoch, a_nodeUp, a_journalUp, a_masterUp, a_touch, a_log, a_many, a_promise, a_base, aS, aU, a_unit, a_sort, a_placeOf, a_client, a_rowLength, a_row, a_closedWith, a_stampOf)) (q := 2) (b := 0) ⟨l1, l2, l3, l4, l5, l6, l7, l8, l9⟩ hDn (fun j hj => (hiv.2.2.2.2.1 j hj).2.2.2) (qt_rbI he (by decide) hb16 (by decide) (by decide)) (fun hk => ?_) (fun hk => ?_))
      · rintro ⟨f_active, f_epoch, a_nodeUp, a_journalUp, a_masterUp, a_touch, a_log, a_many, a_promise, a_base, a_stamp, a_units, a_unit, a_sort, a_placeOf, a_client, a_rowLength, a_row, a_closedWith, a_stampOf⟩ g2 g3
        rw [if_pos hk] at W
        refine ym_tellL (v := (f_active, f_epoch, a_nodeUp, a_journalUp, a_masterUp, a_touch, a_log, a_many, a_promise, a_base, a_stamp, a_units, a_unit, a_sort, a_placeOf, a_client, a_rowLength, a_row, a_closedWith, a_stampOf)) W g2 g3 ?_
        rintro ⟨f_active, f_epoch, a_nodeUp, a_journalUp, a_masterUp, a_touch, a_log, a_many, a_promise, a_base, a_stamp, a_units, a_unit, a_sort, a_placeOf, a_client, a_rowLength, a_row, a_closedWith, a_stampOf⟩ m1 m2 m3
        refine ⟨rfl, h1 hk _ (m1 ?_) m2 m3⟩
        rw [(lj_wrN (q := 2) (a := b) (b := 0) (c := 1) hiv hac hk).2.1]; exact hac
      · rintro ⟨f_active, f_epoch, a_nodeUp, a_journalUp, a_masterUp, a_touch, a_log, a_many, a_promise, a_base, a_stamp, a_units, a_unit, a_sort, a_placeOf, a_client, a_rowLength, a_row, a_closedWith, a_stampOf⟩ g2 g3
        rw [if_neg (by rw [hk]; decide)] at W
        refine ym_tellL (v := (f_active, f_epoch, a_nodeUp, a_journalUp, a_masterUp, a_touch, a_log, a_many, a_promise, a_base, a_stamp, a_units, a_unit, a_sort, a_placeOf, a_client, a_rowLength, a_row, a_closedWith, a_stampOf)) W g2 g3 ?_
        rintro ⟨f_active, f_epoch, a_nodeUp, a_journalUp, a_masterUp, a_touch, a_log, a_many, a_promise, a_base, a_stamp, a_units, a_unit, a_sort, a_placeOf, a_client, a_rowLength, a_row, a_closedWith, a_stampOf⟩ m1 m2 m3
        exact ⟨rfl, h0 hk _ m2 m3⟩
    | succ k ih =>
      intro n d hd hn aS aU HS HU
      obtain ⟨n, rfl⟩ : ∃ n', n = n' + 1 := ⟨n - 1, by omega⟩
      have hd5 : d < 5 := by omega
      have hc : 16 * d + b < 80 := by omega
      have hv := vp_in_nI hc (by decide : 80 < 2 ^ 31)
      have hcc : (nI (16 * d + b)).toNatClampNeg = 16 * d + b := nI_clamp (by omega)
      refine br_f (lb_f hd5) (cd_if (rd_b0 f hd5) (fun z => nm_r (nI_1 d) (ih n (d + 1) (by omega) (by omega) aS aU (fun c hc => ?_) (fun c hc => ?_))) (fun z => ?_))
      · rw [rd_setF hc z]; exact HS c hc
      · rw [rd_setF hc z]; exact HU c hc
      · have z' : f d = true := by simpa using z
        rw [show 16 * nI d + nI b = nI (16 * d + b) from mu_l d 16 b]
        refine ⟨hv, nm_e ⟨hv, nm_e (nm_r (nI_1 d) ?_)⟩⟩
        rw [hcc]
        refine ih n (d + 1) (by omega) (by omega) _ _ (fun c hc => ?_) (fun c hc => ?_)
        · rw [rd_setT hb16 hc z']
          by_cases y : c = 16 * d + b
          · subst y; rw [pk_us, if_pos rfl, qt_ms]
          · rw [pk_un y, if_neg y]; exact HS c hc
        · rw [rd_setT hb16 hc z']
          by_cases y : c = 16 * d + b
          · subst y; rw [pk_us, if_pos rfl]
          · rw [pk_un y, if_neg y]; exact HU c hc
  refine ⟨6, key 5 6 0 (by omega) (by omega) _ _ (fun c hc => ?_) (fun c hc => ?_)⟩
  · rw [rd_setC (f' := fun _ => false) hc (fun e _ => rd_b0'), rd_set0]; exact d2 c hc
  · rw [rd_setC (f' := fun _ => false) hc (fun e _ => rd_b0'), rd_set0]; exact d3 c hc
end
