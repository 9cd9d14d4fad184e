/-! append -/
theorem xm_addBlockG {k : Nat} {T : qt_T} {L : lj_L} {nu : Nat → Bool} {st un : Nat → Nat} {ua : Nat → Int32} {u : SX} (h : sx_T T u) (hI : qt_iv T) (hL : sx_L L u) (hD : sx_D (nu, st, un, ua) u) (hac : 0 < lj_ac L) (hiv : lj_iv k L T) (hrm : lj_rm L 1) {post : Int32 → SX → Prop} {n b : Nat} (hb16 : b < 16) (hb : ls_f (fun b => ¬ qt_in (qt_rl T) (qt_ro T) b) 16 b) (ho : qt_ok T (lj_ep L, 1, n, b, 1))
    (h1 : lj_kept L = true → ∀ u', sx_T (qt_ap T (lj_ep L, 1, n, b, 1) (lj_len L)) u' → sx_L (lj_wr L 1 n b 1) u' → sx_D (rd_rn (nu, st, un, ua) (rd_ch nu st 3) b (2048 * lj_ep L + lj_len L) 0) u' → post 1 u')
    (h0 : lj_kept L = false → ∀ u', sx_T T u' → sx_L (lj_wr L 1 n b 1) u' → sx_D (rd_rn (nu, st, un, ua) (rd_ch nu st 3) b (2048 * lj_ep L + lj_len L) 0) u' → post 0 u') : wpX_addBlock post u (nI n) := by
  obtain ⟨mu, ju, ac, ep, to, pr, ba, le, lg⟩ := L
  exact xm_addBlock h hI hL hD hac hiv hrm hb16 hb ho h1 h0
theorem ym_placeG {T : qt_T} {L : lj_L} {nu : Nat → Bool} {st un : Nat → Nat} {ua : Nat → Int32} {v : SY} (h : sy_T T v) (hL : sy_L L v) (hD : sy_D (nu, st, un, ua) v) (hb : rd_bd (nu, st, un, ua)) {post : SY → Prop} {b : Nat} (hb16 : b < 16) (hp : ∀ v', sy_T T v' → sy_L L v' → sy_D (rd_rn (nu, st, un, ua) (rd_ch nu st 3) b (2048 * lj_ep L + lj_len L) 0) v' → post v') : wpY_place post v (nI b) := by
  obtain ⟨mu, ju, ac, ep, to, pr, ba, le, lg⟩ := L
  exact ym_place h hL hD hb hb16 hp
theorem xm_putUnitG {T : qt_T} {L : lj_L} {nu : Nat → Bool} {st un : Nat → Nat} {ua : Nat → Int32} {u : SX} (h : sx_T T u) (hL : sx_L L u) (hD : sx_D (nu, st, un, ua) u) {post : SX → Prop} {c : Nat} {x : Int32} (hc : c < 80) (hu : un c < 8) (hp : ∀ u', sx_T T u' → sx_L L u' → sx_D (nu, st, qt_u un c (un c + 1), upd ua (8 * c + un c) x) u' → post u') : wpX_putUnit post u (nI c) x := by
  obtain ⟨mu, ju, ac, ep, to, pr, ba, le, lg⟩ := L
  exact xm_putUnit h hL hD hc hu hp
theorem qt_ap1 {T : qt_T} {e a b c k : Nat} : qt_so (qt_ap T (e, 1, a, b, c) k) = qt_so T ∧ qt_rl (qt_ap T (e, 1, a, b, c) k) = qt_u (qt_rl T) a (qt_rl T a + 1) ∧ qt_ro (qt_ap T (e, 1, a, b, c) k) = qt_u (qt_ro T) (3 * a + qt_rl T a) b ∧ qt_sp (qt_ap T (e, 1, a, b, c) k) = qt_u (qt_sp T) b (2048 * e + k) := by
  obtain ⟨so, pl, cl, cw, rl, ro, sp⟩ := T
  exact ⟨rfl, rfl, rfl, rfl⟩
section
variable {k : Nat} {T : qt_T} {L : lj_L} {nu : Nat → Bool} {st un : Nat → Nat} {ua : Nat → Int32} {n : Nat} {x : Int32}
theorem ap_unit {b m : Nat} (hI : qt_iv T) (hiv : lj_iv k L T) (hD : rd_iv L (nu, st, un, ua)) (hb : rd_bd (nu, st, un, ua)) (hn : n < 12) (hr : 0 < qt_rl T n) (hbb : qt_ro T (3 * n + (qt_rl T n - 1)) = b) (hm : ls_f (fun d => rd_g nu st b (qt_sp T b) d = true) 5 m) (hm5 : m < 5) (hu : un (16 * m + b) < 8) :
    oc k T L (nu, st, un, ua) (fun post u => match u with | (f_active, f_epoch, a_dataNodeDown, a_journalDown, a_masterDown, a_inTouch, a_promise, a_base, a_logLength, a_logEpoch, a_logKind, a_logA, a_logB, a_logC, a_inodeState, a_inodePlace, a_inodeClient, a_closeUnits, a_rowLength, a_rowBlock, a_blockStamp, a_replicaHeld, a_replicaStamp, a_unitCount, a_unitValue) => wX_append_210 post (nI n) x f_active f_epoch a_dataNodeDown a_journalDown a_masterDown a_inTouch a_promise a_base a_logLength a_logEpoch a_logKind a_logA a_logB a_logC a_inodeState a_inodePlace a_inodeClient a_closeUnits a_rowLength a_rowBlock a_blockStamp a_replicaHeld a_replicaStamp a_unitCount a_unitValue) (fun post v => match v with | (f_active, f_epoch, a_nodeUp, a_journalUp, a_masterUp, a_touch, a_log, a_many, a_promise, a_base, a_stamp, a_units, a_unit, a_sort, a_placeOf, a_client, a_rowLength, a_row, a_closedWith, a_stampOf) => wY_append_304 post x (nI b) f_active f_epoch a_nodeUp a_journalUp a_masterUp a_touch a_log a_many a_promise a_base a_stamp a_units a_unit a_sort a_placeOf a_client a_rowLength a_row a_closedWith a_stampOf) := by
  have hb16 : b < 16 := by rw [← hbb]; exact qt_iv5 hI n (qt_rl T n - 1) hn (by omega)
  have hin : qt_in (qt_rl T) (qt_ro T) b := ⟨n, qt_rl T n - 1, hn, by omega, hbb⟩
  have hc : 16 * m + b < 80 := by omega
  have hv := vp_in_nI hc (by decide : 80 < 2 ^ 31)
  have hcc : (nI (16 * m + b)).toNatClampNeg = 16 * m + b := nI_clamp (by omega)
  refine ⟨nI (un (16 * m + b) + 1), T, L, (nu, st, qt_u un (16 * m + b) (un (16 * m + b) + 1), upd ua (8 * (16 * m + b) + un (16 * m + b)) x), hI, hiv, ⟨hD.1, fun c hc => ?_⟩, ?_, ?_⟩
  · by_cases z : c = 16 * m + b
    · subst z; rw [qt_us]; omega
    · rw [qt_un z]; exact hD.2 c hc
  · rintro post ⟨f_active, f_epoch, a_dataNodeDown, a_journalDown, a_masterDown, a_inTouch, a_promise, a_base, a_logLength, a_logEpoch, a_logKind, a_logA, a_logB, a_logC, a_inodeState, a_inodePlace, a_inodeClient, a_closeUnits, a_rowLength, a_rowBlock, a_blockStamp, a_replicaHeld, a_replicaStamp, a_unitCount, a_unitValue⟩ h1 h2 h3 hp
    unfold wX_append_210 wpX_addUnit
    refine xm_lastBlock (u := (f_active, f_epoch, a_dataNodeDown, a_journalDown, a_masterDown, a_inTouch, a_promise, a_base, a_logLength, a_logEpoch, a_logKind, a_logA, a_logB, a_logC, a_inodeState, a_inodePlace, a_inodeClient, a_closeUnits, a_rowLength, a_rowBlock, a_blockStamp, a_replicaHeld, a_replicaStamp, a_unitCount, a_unitValue)) h1 hI hn (fun z => by omega) (fun z => ?_)
    rw [hbb]
    refine br_f (ix_m1 (by omega)) (xm_firstGoodNode (u := (f_active, f_epoch, a_dataNodeDown, a_journalDown, a_masterDown, a_inTouch, a_promise, a_base, a_logLength, a_logEpoch, a_logKind, a_logA, a_logB, a_logC, a_inodeState, a_inodePlace, a_inodeClient, a_closeUnits, a_rowLength, a_rowBlock, a_blockStamp, a_replicaHeld, a_replicaStamp, a_unitCount, a_unitValue)) h1 hI h3 hb hb16 hm ?_)
    rw [ls_vS hm5]
    refine br_f (ix_m1 (by omega)) (nm_r (mu_r m 16 b) (xm_putUnitG (u := (f_active, f_epoch, a_dataNodeDown, a_journalDown, a_masterDown, a_inTouch, a_promise, a_base, a_logLength, a_logEpoch, a_logKind, a_logA, a_logB, a_logC, a_inodeState, a_inodePlace, a_inodeClient, a_closeUnits, a_rowLength, a_rowBlock, a_blockStamp, a_replicaHeld, a_replicaStamp, a_unitCount, a_unitValue)) h1 h2 h3 hc hu ?_))
    rintro ⟨f_active, f_epoch, a_dataNodeDown, a_journalDown, a_masterDown, a_inTouch, a_promise, a_base, a_logLength, a_logEpoch, a_logKind, a_logA, a_logB, a_logC, a_inodeState, a_inodePlace, a_inodeClient, a_closeUnits, a_rowLength, a_rowBlock, a_blockStamp, a_replicaHeld, a_replicaStamp, a_unitCount, a_unitValue⟩ g1 g2 g3
    have e : a_unitCount (nI (16 * m + b)).toNatClampNeg = nI (un (16 * m + b) + 1) := by rw [hcc, g3.2.2.2.1 _ hc, qt_us]
    refine ⟨hv, ?_⟩
    dsimp only
    rw [e]
    exact hp _ g1 g2 g3
  · rintro post ⟨f_active, f_epoch, a_nodeUp, a_journalUp, a_masterUp, a_touch, a_log, a_many, a_promise, a_base, a_stamp, a_units, a_unit, a_sort, a_placeOf, a_client, a_rowLength, a_row, a_closedWith, a_stampOf⟩ h1 h2 h3 hp
    unfold wY_append_304
    refine ym_first (v := (f_active, f_epoch, a_nodeUp, a_journalUp, a_masterUp, a_touch, a_log, a_many, a_promise, a_base, a_stamp, a_units, a_unit, a_sort, a_placeOf, a_client, a_rowLength, a_row, a_closedWith, a_stampOf)) h1 hI h3 hb hb16 hin hm ?_
    rw [ls_vS hm5]
    obtain ⟨mu, ju, ac, ep, to, pr, ba, le, lg⟩ := L
    obtain ⟨l1, l2, l3, l4, l5, l6, l7, l8, l9⟩ := h2
    obtain ⟨d1, d2, d3, d4⟩ := h3
    rw [show 16 * nI m + nI b = nI (16 * m + b) from mu_l m 16 b, hcc, d3 _ hc, show 8 * nI (16 * m + b) + nI (un (16 * m + b)) = nI (8 * (16 * m + b) + un (16 * m + b)) from mu_l _ 8 _, show (nI (8 * (16 * m + b) + un (16 * m + b))).toNatClampNeg = 8 * (16 * m + b) + un (16 * m + b) from nI_clamp (by omega), nI_1]
    refine ⟨hv, vp_in_nI (by omega) (by decide), nm_e ⟨hv, hv, nm_e ⟨hv, ?_⟩⟩⟩
    rw [pk_us]
    refine hp _ ⟨l1, l2, l3, l4, l5, l6, l7, l8, l9⟩ ⟨d1, d2, ?_, ?_⟩
    · intro j hj
      by_cases z : j = 16 * m + b
      · subst z; rw [pk_us, qt_us]
      · rw [pk_un z, qt_un z]; exact d3 j hj
    · rw [d4]
theorem ap_ext {b : Nat} {x4 : Int32} (hI : qt_iv T) (hiv : lj_iv k L T) (hD : rd_iv L (nu, st, un, ua)) (hb : rd_bd (nu, st, un, ua)) (hac : 0 < lj_ac L) (he : lj_ep L ≤ 512) (hrm : lj_rm L 1) (hn : n < 12) (hs : qt_so T n = 2) (hr : qt_rl T n < 3) (hfree : ls_f (fun b => ¬ qt_in (qt_rl T) (qt_ro T) b) 16 b) (hb16 : b < 16) (hup : rd_il nu st (fun _ => true) 5 ≠ 0) :
    oc k T L (nu, st, un, ua) (fun post u => match u with | (f_active, f_epoch, a_dataNodeDown, a_journalDown, a_masterDown, a_inTouch, a_promise, a_base, a_logLength, a_logEpoch, a_logKind, a_logA, a_logB, a_logC, a_inodeState, a_inodePlace, a_inodeClient, a_closeUnits, a_rowLength, a_rowBlock, a_blockStamp, a_replicaHeld, a_replicaStamp, a_unitCount, a_unitValue) => wX_append_194 post (nI n) x 1 f_active f_epoch a_dataNodeDown a_journalDown a_masterDown a_inTouch a_promise a_base a_logLength a_logEpoch a_logKind a_logA a_logB a_logC a_inodeState a_inodePlace a_inodeClient a_closeUnits a_rowLength a_rowBlock a_blockStamp a_replicaHeld a_replicaStamp a_unitCount a_unitValue) (fun post v => match v with | (f_active, f_epoch, a_nodeUp, a_journalUp, a_masterUp, a_touch, a_log, a_many, a_promise, a_base, a_stamp, a_units, a_unit, a_sort, a_placeOf, a_client, a_rowLength, a_row, a_closedWith, a_stampOf) => wY_append_264 post (nI n) x x4 8 (nI b) f_active f_epoch a_nodeUp a_journalUp a_masterUp a_touch a_log a_many a_promise a_base a_stamp a_units a_unit a_sort a_placeOf a_client a_rowLength a_row a_closedWith a_stampOf) := by
  have ho : qt_ok T (lj_ep L, 1, n, b, 1) := ⟨he, Or.inr (Or.inl ⟨rfl, hn, hs, hr, hb16, rfl⟩)⟩
  have W := lj_wrI hiv hac hrm ho
  have hlen := lj_rmL hiv hac hrm
  have hS := rd_ivS hD hac
  have hx := rd_ch1 hup
  have r1 : ∀ c, c < 80 → rd_set (2048 * lj_ep L + lj_len L + 1) (rd_ch nu st 3) b st c ≤ 2048 * lj_ep L + lj_len L + 1 := fun c hc => rd_setB (Nat.le_refl _) (by have := hS c hc; omega)
  have r2 : ∀ c, c < 80 → rd_set 0 (rd_ch nu st 3) b un c ≤ 8 := fun c hc => rd_setB (by decide) (hD.2 c hc)
  have r3 := rd_new (nu := nu) (ch := rd_ch nu st 3) (st' := rd_set (2048 * lj_ep L + lj_len L + 1) (rd_ch nu st 3) b st) hb16 hS (fun d _ hg => rd_chU hg) hx (fun d _ => rd_setA hb16)
  have hRI : rd_iv (lj_wr L 1 n b 1) (nu, rd_set (2048 * lj_ep L + lj_len L + 1) (rd_ch nu st 3) b st, rd_set 0 (rd_ch nu st 3) b un, ua) := rd_wrI hiv hac r1 r2
  cases hkp : lj_kept L with
  | true =>
    rw [if_pos hkp] at W
    have hI1 := qt_ivAp hI ho (show lj_len L < 1000 by omega)
    obtain ⟨q1, q2, q3, q4⟩ := qt_ap1 (T := T) (e := lj_ep L) (a := n) (b := b) (c := 1) (k := lj_len L)
    have hac1 := (lj_wrN (q := 1) (a := n) (b := b) (c := 1) hiv hac hkp).2.1
    have hbd : rd_bd (nu, rd_set (2048 * lj_ep L + lj_len L + 1) (rd_ch nu st 3) b st, rd_set 0 (rd_ch nu st 3) b un, ua) := ⟨fun c hc => by have := r1 c hc; omega, r2⟩
    obtain ⟨m, hm⟩ := ls_ex (fun d => rd_g nu (rd_set (2048 * lj_ep L + lj_len L + 1) (rd_ch nu st 3) b st) b (qt_sp (qt_ap T (lj_ep L, 1, n, b, 1) (lj_len L)) b) d = true) 5
    have hsp : qt_sp (qt_ap T (lj_ep L, 1, n, b, 1) (lj_len L)) b = 2048 * lj_ep L + lj_len L := by rw [q4, qt_us]
    have hm5 : m < 5 := by
      obtain ⟨d, hd, hg⟩ := hx
      refine ls_some hm hd ?_
      show rd_g nu _ b _ d = true
      rw [hsp, r3 d hd]; exact hg
    have hmg : rd_ch nu st 3 m = true := by
      have : rd_g nu (rd_set (2048 * lj_ep L + lj_len L + 1) (rd_ch nu st 3) b st) b (qt_sp (qt_ap T (lj_ep L, 1, n, b, 1) (lj_len L)) b) m = true := hm.2.2 hm5
      rw [hsp, r3 m hm5] at this
      exact this
    have hu0 : rd_set 0 (rd_ch nu st 3) b un (16 * m + b) < 8 := by rw [rd_setA hb16, if_pos hmg]; decide
    have E := ap_unit (x := x) (ua := ua) (n := n) (b := b) (m := m) hI1 W hRI hbd hn (by rw [q2, qt_us]; omega) (by rw [q2, q3, qt_us, show qt_rl T n + 1 - 1 = qt_rl T n by omega, qt_us]) hm hm5 hu0
    obtain ⟨r, T', L', D', a1, a2, a3, a4, a5⟩ := E
    refine ⟨r, T', L', D', a1, a2, a3, ?_, ?_⟩
    · rintro post ⟨f_active, f_epoch, a_dataNodeDown, a_journalDown, a_masterDown, a_inTouch, a_promise, a_base, a_logLength, a_logEpoch, a_logKind, a_logA, a_logB, a_logC, a_inodeState, a_inodePlace, a_inodeClient, a_closeUnits, a_rowLength, a_rowBlock, a_blockStamp, a_replicaHeld, a_replicaStamp, a_unitCount, a_unitValue⟩ h1 h2 h3 hp
      refine br_f bo_1 (xm_addBlockG h1 hI h2 h3 hac hiv hrm hb16 hfree ho (fun _ => ?_) (fun z => absurd (hkp.symm.trans z) (by decide)))
      rintro ⟨f_active, f_epoch, a_dataNodeDown, a_journalDown, a_masterDown, a_inTouch, a_promise, a_base, a_logLength, a_logEpoch, a_logKind, a_logA, a_logB, a_logC, a_inodeState, a_inodePlace, a_inodeClient, a_closeUnits, a_rowLength, a_rowBlock, a_blockStamp, a_replicaHeld, a_replicaStamp, a_unitCount, a_unitValue⟩ g1 g2 g3
      exact br_f bo_1 (a4 post (f_active, f_epoch, a_dataNodeDown, a_journalDown, a_masterDown, a_inTouch, a_promise, a_base, a_logLength, a_logEpoch, a_logKind, a_logA, a_logB, a_logC, a_inodeState, a_inodePlace, a_inodeClient, a_closeUnits, a_rowLength, a_rowBlock, a_blockStamp, a_replicaHeld, a_replicaStamp, a_unitCount, a_unitValue) g1 g2 g3 hp)
    · rintro post ⟨f_active, f_epoch, a_nodeUp, a_journalUp, a_masterUp, a_touch, a_log, a_many, a_promise, a_base, a_stamp, a_units, a_unit, a_sort, a_placeOf, a_client, a_rowLength, a_row, a_closedWith, a_stampOf⟩ h1 h2 h3 hp
      refine br_t rfl (ym_placeG h1 h2 h3 hb hb16 ?_)
      rintro ⟨f_active, f_epoch, a_nodeUp, a_journalUp, a_masterUp, a_touch, a_log, a_many, a_promise, a_base, a_stamp, a_units, a_unit, a_sort, a_placeOf, a_client, a_rowLength, a_row, a_closedWith, a_stampOf⟩ k1 k2 k3
      refine ym_writeG (q := 1) k2 k3 hiv ho (fun _ => ?_) (fun z => absurd (hkp.symm.trans z) (by decide))
      rintro ⟨f_active, f_epoch, a_nodeUp, a_journalUp, a_masterUp, a_touch, a_log, a_many, a_promise, a_base, a_stamp, a_units, a_unit, a_sort, a_placeOf, a_client, a_rowLength, a_row, a_closedWith, a_stampOf⟩ g2 g3
      refine br_f bo_1 (ym_tellL (v := (f_active, f_epoch, a_nodeUp, a_journalUp, a_masterUp, a_touch, a_log, a_many, a_promise, a_base, a_stamp, a_units, a_unit, a_sort, a_placeOf, a_client, a_rowLength, a_row, a_closedWith, a_stampOf)) W g2 g3 ?_)
      rintro ⟨f_active, f_epoch, a_nodeUp, a_journalUp, a_masterUp, a_touch, a_log, a_many, a_promise, a_base, a_stamp, a_units, a_unit, a_sort, a_placeOf, a_client, a_rowLength, a_row, a_closedWith, a_stampOf⟩ m1 m2 m3
      exact a5 post (f_active, f_epoch, a_nodeUp, a_journalUp, a_masterUp, a_touch, a_log, a_many, a_promise, a_base, a_stamp, a_units, a_unit, a_sort, a_placeOf, a_client, a_rowLength, a_row, a_closedWith, a_stampOf) (m1 (by rw [hac1]; exact hac)) m2 m3 hp
  | false =>
    rw [if_neg (by rw [hkp]; decide)] at W
    refine ⟨-3, T, lj_wr L 1 n b 1, _, hI, W, hRI, ?_, ?_⟩
    · rintro post ⟨f_active, f_epoch, a_dataNodeDown, a_journalDown, a_masterDown, a_inTouch, a_promise, a_base, a_logLength, a_logEpoch, a_logKind, a_logA, a_logB, a_logC, a_inodeState, a_inodePlace, a_inodeClient, a_closeUnits, a_rowLength, a_rowBlock, a_blockStamp, a_replicaHeld, a_replicaStamp, a_unitCount, a_unitValue⟩ h1 h2 h3 hp
      refine br_f bo_1 (xm_addBlockG h1 hI h2 h3 hac hiv hrm hb16 hfree ho (fun z => absurd (hkp.symm.trans z) (by decide)) (fun _ => ?_))
      rintro ⟨f_active, f_epoch, a_dataNodeDown, a_journalDown, a_masterDown, a_inTouch, a_promise, a_base, a_logLength, a_logEpoch, a_logKind, a_logA, a_logB, a_logC, a_inodeState, a_inodePlace, a_inodeClient, a_closeUnits, a_rowLength, a_rowBlock, a_blockStamp, a_replicaHeld, a_replicaStamp, a_unitCount, a_unitValue⟩ g1 g2 g3
      exact br_t rfl (hp _ g1 g2 g3)
    · rintro post ⟨f_active, f_epoch, a_nodeUp, a_journalUp, a_masterUp, a_touch, a_log, a_many, a_promise, a_base, a_stamp, a_units, a_unit, a_sort, a_placeOf, a_client, a_rowLength, a_row, a_closedWith, a_stampOf⟩ h1 h2 h3 hp
      refine br_t rfl (ym_placeG h1 h2 h3 hb hb16 ?_)
      rintro ⟨f_active, f_epoch, a_nodeUp, a_journalUp, a_masterUp, a_touch, a_log, a_many, a_promise, a_base, a_stamp, a_units, a_unit, a_sort, a_placeOf, a_client, a_rowLength, a_row, a_closedWith, a_stampOf⟩ k1 k2 k3
      refine ym_writeG (q := 1) k2 k3 hiv ho (fun z => absurd (hkp.symm.trans z) (by decide)) (fun _ => ?_)
      rintro ⟨f_active, f_epoch, a_nodeUp, a_journalUp, a_masterUp, a_touch, a_log, a_many, a_promise, a_base, a_stamp, a_units, a_unit, a_sort, a_placeOf, a_client, a_rowLength, a_row, a_closedWith, a_stampOf⟩ g2 g3
      exact br_t rfl (hp _ g2 g3)
end
