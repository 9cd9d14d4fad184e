/-! append: renewal, room -/
section
variable {k : Nat} {T : qt_T} {L : lj_L} {nu : Nat → Bool} {st un : Nat → Nat} {ua : Nat → Int32} {n : Nat} {x : Int32}
theorem lj_rm0 (hiv : lj_iv k L T) : lj_rm L 0 := by
  obtain ⟨mu, ju, ac, ep, to, pr, ba, le, lg⟩ := L
  intro j hj _
  have := hiv.2.2.2.2.1 j hj
  exact ⟨fun _ => by omega, by omega⟩
theorem lj_rm21 (h : lj_rm L 2) : lj_rm L 1 := by
  obtain ⟨mu, ju, ac, ep, to, pr, ba, le, lg⟩ := L
  intro j hj ht
  have := h j hj ht
  exact ⟨fun z => by have := this.1 z; omega, by omega⟩
theorem ap_renE {b b' l : Nat} (hk : k ≤ 2048) (hI : qt_iv T) (hiv : lj_iv k L T) (hD : rd_iv L (nu, st, un, ua)) (hb : rd_bd (nu, st, un, ua)) (hac : 0 < lj_ac L) (he : lj_ep L ≤ 512) (hrm : lj_rm L 2) (hn : n < 12) (hs : qt_so T n = 2) (hr : qt_rl T n < 3) (hfree : ls_f (fun b => ¬ qt_in (qt_rl T) (qt_ro T) b) 16 b') (hb16' : b' < 16) (hup : rd_il nu st (fun _ => true) 5 ≠ 0) (hb16 : b < 16) (hin : qt_in (qt_rl T) (qt_ro T) b) (hl : l ≤ 8) (hfw : rd_fw (rd_g nu st b (qt_sp T b)) un b 5 = l + 1) :
    oc k T L (nu, st, un, ua) (fun post u => match u with | (f_active, f_epoch, a_dataNodeDown, a_journalDown, a_masterDown, a_inTouch, a_promise, a_base, a_logLength, a_logEpoch, a_logKind, a_logA, a_logB, a_logC, a_inodeState, a_inodePlace, a_inodeClient, a_closeUnits, a_rowLength, a_rowBlock, a_blockStamp, a_replicaHeld, a_replicaStamp, a_unitCount, a_unitValue) => wX_append_177 post (nI n) x (nI b) 1 1 f_active f_epoch a_dataNodeDown a_journalDown a_masterDown a_inTouch a_promise a_base a_logLength a_logEpoch a_logKind a_logA a_logB a_logC a_inodeState a_inodePlace a_inodeClient a_closeUnits a_rowLength a_rowBlock a_blockStamp a_replicaHeld a_replicaStamp a_unitCount a_unitValue) (fun post v => match v with | (f_active, f_epoch, a_nodeUp, a_journalUp, a_masterUp, a_touch, a_log, a_many, a_promise, a_base, a_stamp, a_units, a_unit, a_sort, a_placeOf, a_client, a_rowLength, a_row, a_closedWith, a_stampOf) => wY_append_247 post (nI n) x (nI b) 1 8 (nI b') f_active f_epoch a_nodeUp a_journalUp a_masterUp a_touch a_log a_many a_promise a_base a_stamp a_units a_unit a_sort a_placeOf a_client a_rowLength a_row a_closedWith a_stampOf) := by
  have hrm1 := lj_rm21 hrm
  have ho : qt_ok T (lj_ep L, 2, b, 0, 1) := ⟨he, Or.inr (Or.inr (Or.inl ⟨rfl, hb16, rfl, rfl⟩))⟩
  have W := lj_wrI hiv hac hrm1 ho
  have hlen := lj_rmL hiv hac hrm
  have hx : ∃ d, d < 5 ∧ rd_g nu st b (qt_sp T b) d = true := by
    obtain ⟨d, h1, h2, _⟩ := rd_fwA (f := rd_g nu st b (qt_sp T b)) (un := un) (b := b) (n := 5) (by omega)
    exact ⟨d, h1, h2⟩
  obtain ⟨r1, r2, r3, r4⟩ := rd_rnG hI hiv hD hac he hrm1 hb16 hl hx
  have hRI : rd_iv (lj_wr L 2 b 0 1) (nu, rd_set (2048 * lj_ep L + lj_len L + 1) (rd_g nu st b (qt_sp T b)) b st, rd_set l (rd_g nu st b (qt_sp T b)) b un, ua) := rd_wrI hiv hac r1 r2
  cases hkp : lj_kept L with
  | true =>
    rw [if_pos hkp] at W
    obtain ⟨e1, e2, e3⟩ := lj_wrN (q := 2) (a := b) (b := 0) (c := 1) hiv hac hkp
    have hI1 := qt_ivAp hI ho (show lj_len L < 1000 by omega)
    obtain ⟨q1, q2, q3, q4⟩ := qt_ap2 (T := T) (e := lj_ep L) (a := b) (b := 0) (c := 1) (k := lj_len L)
    have hbd : rd_bd (nu, rd_set (2048 * lj_ep L + lj_len L + 1) (rd_g nu st b (qt_sp T b)) b st, rd_set l (rd_g nu st b (qt_sp T b)) b un, ua) := ⟨fun c hc => by have := r1 c hc; omega, r2⟩
    have hup1 : rd_il nu (rd_set (2048 * lj_ep L + lj_len L + 1) (rd_g nu st b (qt_sp T b)) b st) (fun _ => true) 5 ≠ 0 := by
      rcases rd_ilP (nu := nu) (st := st) (ok := fun _ => true) (n := 5) with z | ⟨z1, _, z3⟩
      · exact absurd z hup
      · exact rd_il0 (d := rd_il nu st (fun _ => true) 5 - 1) (by omega) rfl z3
    have E := ap_ext (x := x) (ua := ua) (n := n) (b := b') (x4 := nI b) hI1 W hRI hbd (by rw [e2]; exact hac) (by rw [e3]; exact he) (lj_wrR hrm) hn (by rw [q1]; exact hs) (by rw [q2]; exact hr) (by rw [q2, q3]; exact hfree) hb16' hup1
    obtain ⟨r, T', L', D', a1, a2, a3, a4, a5⟩ := E
    refine ⟨r, T', L', D', a1, a2, a3, ?_, ?_⟩
    · rintro post ⟨f_active, f_epoch, a_dataNodeDown, a_journalDown, a_masterDown, a_inTouch, a_promise, a_base, a_logLength, a_logEpoch, a_logKind, a_logA, a_logB, a_logC, a_inodeState, a_inodePlace, a_inodeClient, a_closeUnits, a_rowLength, a_rowBlock, a_blockStamp, a_replicaHeld, a_replicaStamp, a_unitCount, a_unitValue⟩ h1 h2 h3 hp
      refine br_f bo_1 (xm_renewG h1 hI h2 h3 hb hac hiv he hrm1 hb16 hfw (fun _ => ?_) (fun z => absurd (hkp.symm.trans z) (by decide)))
      rintro ⟨f_active, f_epoch, a_dataNodeDown, a_journalDown, a_masterDown, a_inTouch, a_promise, a_base, a_logLength, a_logEpoch, a_logKind, a_logA, a_logB, a_logC, a_inodeState, a_inodePlace, a_inodeClient, a_closeUnits, a_rowLength, a_rowBlock, a_blockStamp, a_replicaHeld, a_replicaStamp, a_unitCount, a_unitValue⟩ g1 g2 g3
      exact br_f bo_1 (a4 post (f_active, f_epoch, a_dataNodeDown, a_journalDown, a_masterDown, a_inTouch, a_promise, a_base, a_logLength, a_logEpoch, a_logKind, a_logA, a_logB, a_logC, a_inodeState, a_inodePlace, a_inodeClient, a_closeUnits, a_rowLength, a_rowBlock, a_blockStamp, a_replicaHeld, a_replicaStamp, a_unitCount, a_unitValue) g1 g2 g3 hp)
    · rintro post ⟨f_active, f_epoch, a_nodeUp, a_journalUp, a_masterUp, a_touch, a_log, a_many, a_promise, a_base, a_stamp, a_units, a_unit, a_sort, a_placeOf, a_client, a_rowLength, a_row, a_closedWith, a_stampOf⟩ h1 h2 h3 hp
      refine br_f bo_1 (ym_renewG h1 hI h2 h3 hb hac hiv he hrm1 hb16 hin hfw (fun _ => ?_) (fun z => absurd (hkp.symm.trans z) (by decide)))
      rintro ⟨f_active, f_epoch, a_nodeUp, a_journalUp, a_masterUp, a_touch, a_log, a_many, a_promise, a_base, a_stamp, a_units, a_unit, a_sort, a_placeOf, a_client, a_rowLength, a_row, a_closedWith, a_stampOf⟩ g1 g2 g3
      exact br_f bo_1 (a5 post (f_active, f_epoch, a_nodeUp, a_journalUp, a_masterUp, a_touch, a_log, a_many, a_promise, a_base, a_stamp, a_units, a_unit, a_sort, a_placeOf, a_client, a_rowLength, a_row, a_closedWith, a_stampOf) g1 g2 g3 hp)
  | false =>
    rw [if_neg (by rw [hkp]; decide)] at W
    refine ⟨-3, T, lj_wr L 2 b 0 1, _, hI, W, hRI, ?_, ?_⟩
    · rintro post ⟨f_active, f_epoch, a_dataNodeDown, a_journalDown, a_masterDown, a_inTouch, a_promise, a_base, a_logLength, a_logEpoch, a_logKind, a_logA, a_logB, a_logC, a_inodeState, a_inodePlace, a_inodeClient, a_closeUnits, a_rowLength, a_rowBlock, a_blockStamp, a_replicaHeld, a_replicaStamp, a_unitCount, a_unitValue⟩ h1 h2 h3 hp
      refine br_f bo_1 (xm_renewG h1 hI h2 h3 hb hac hiv he hrm1 hb16 hfw (fun z => absurd (hkp.symm.trans z) (by decide)) (fun _ => ?_))
      rintro ⟨f_active, f_epoch, a_dataNodeDown, a_journalDown, a_masterDown, a_inTouch, a_promise, a_base, a_logLength, a_logEpoch, a_logKind, a_logA, a_logB, a_logC, a_inodeState, a_inodePlace, a_inodeClient, a_closeUnits, a_rowLength, a_rowBlock, a_blockStamp, a_replicaHeld, a_replicaStamp, a_unitCount, a_unitValue⟩ g1 g2 g3
      exact br_t rfl (hp _ g1 g2 g3)
    · rintro post ⟨f_active, f_epoch, a_nodeUp, a_journalUp, a_masterUp, a_touch, a_log, a_many, a_promise, a_base, a_stamp, a_units, a_unit, a_sort, a_placeOf, a_client, a_rowLength, a_row, a_closedWith, a_stampOf⟩ h1 h2 h3 hp
      refine br_f bo_1 (ym_renewG h1 hI h2 h3 hb hac hiv he hrm1 hb16 hin hfw (fun z => absurd (hkp.symm.trans z) (by decide)) (fun _ => ?_))
      rintro ⟨f_active, f_epoch, a_nodeUp, a_journalUp, a_masterUp, a_touch, a_log, a_many, a_promise, a_base, a_stamp, a_units, a_unit, a_sort, a_placeOf, a_client, a_rowLength, a_row, a_closedWith, a_stampOf⟩ g2 g3
      exact br_t rfl (hp _ g2 g3)
theorem ap_renU {b l m : Nat} {x8 : Int32} (hk : k ≤ 2048) (hI : qt_iv T) (hiv : lj_iv k L T) (hD : rd_iv L (nu, st, un, ua)) (hb : rd_bd (nu, st, un, ua)) (hac : 0 < lj_ac L) (he : lj_ep L ≤ 512) (hrm1 : lj_rm L 1) (hn : n < 12) (hr0 : 0 < qt_rl T n) (hbb : qt_ro T (3 * n + (qt_rl T n - 1)) = b) (hm : ls_f (fun d => rd_g nu st b (qt_sp T b) d = true) 5 m) (hm5 : m < 5) (hl : l < 8) (hfw : rd_fw (rd_g nu st b (qt_sp T b)) un b 5 = l + 1) :
    oc k T L (nu, st, un, ua) (fun post u => match u with | (f_active, f_epoch, a_dataNodeDown, a_journalDown, a_masterDown, a_inTouch, a_promise, a_base, a_logLength, a_logEpoch, a_logKind, a_logA, a_logB, a_logC, a_inodeState, a_inodePlace, a_inodeClient, a_closeUnits, a_rowLength, a_rowBlock, a_blockStamp, a_replicaHeld, a_replicaStamp, a_unitCount, a_unitValue) => wX_append_177 post (nI n) x (nI b) 1 0 f_active f_epoch a_dataNodeDown a_journalDown a_masterDown a_inTouch a_promise a_base a_logLength a_logEpoch a_logKind a_logA a_logB a_logC a_inodeState a_inodePlace a_inodeClient a_closeUnits a_rowLength a_rowBlock a_blockStamp a_replicaHeld a_replicaStamp a_unitCount a_unitValue) (fun post v => match v with | (f_active, f_epoch, a_nodeUp, a_journalUp, a_masterUp, a_touch, a_log, a_many, a_promise, a_base, a_stamp, a_units, a_unit, a_sort, a_placeOf, a_client, a_rowLength, a_row, a_closedWith, a_stampOf) => wY_append_247 post (nI n) x (nI b) 1 (nI l) x8 f_active f_epoch a_nodeUp a_journalUp a_masterUp a_touch a_log a_many a_promise a_base a_stamp a_units a_unit a_sort a_placeOf a_client a_rowLength a_row a_closedWith a_stampOf) := by
  have hb16 : b < 16 := by rw [← hbb]; exact qt_iv5 hI n (qt_rl T n - 1) hn (by omega)
  have hin : qt_in (qt_rl T) (qt_ro T) b := ⟨n, qt_rl T n - 1, hn, by omega, hbb⟩
  have ho : qt_ok T (lj_ep L, 2, b, 0, 1) := ⟨he, Or.inr (Or.inr (Or.inl ⟨rfl, hb16, rfl, rfl⟩))⟩
  have W := lj_wrI hiv hac hrm1 ho
  have hlen := lj_rmL hiv hac hrm1
  have hx : ∃ d, d < 5 ∧ rd_g nu st b (qt_sp T b) d = true := ⟨m, hm5, hm.2.2 hm5⟩
  obtain ⟨r1, r2, r3, r4⟩ := rd_rnG hI hiv hD hac he hrm1 hb16 (show l ≤ 8 by omega) hx
  have hRI : rd_iv (lj_wr L 2 b 0 1) (nu, rd_set (2048 * lj_ep L + lj_len L + 1) (rd_g nu st b (qt_sp T b)) b st, rd_set l (rd_g nu st b (qt_sp T b)) b un, ua) := rd_wrI hiv hac r1 r2
  cases hkp : lj_kept L with
  | true =>
    rw [if_pos hkp] at W
    have hI1 := qt_ivAp hI ho (show lj_len L < 1000 by omega)
    obtain ⟨q1, q2, q3, q4⟩ := qt_ap2 (T := T) (e := lj_ep L) (a := b) (b := 0) (c := 1) (k := lj_len L)
    have hbd : rd_bd (nu, rd_set (2048 * lj_ep L + lj_len L + 1) (rd_g nu st b (qt_sp T b)) b st, rd_set l (rd_g nu st b (qt_sp T b)) b un, ua) := ⟨fun c hc => by have := r1 c hc; omega, r2⟩
    have hsp : qt_sp (qt_ap T (lj_ep L, 2, b, 0, 1) (lj_len L)) b = 2048 * lj_ep L + lj_len L := by rw [q4, qt_us]
    have hm' : ls_f (fun d => rd_g nu (rd_set (2048 * lj_ep L + lj_len L + 1) (rd_g nu st b (qt_sp T b)) b st) b (qt_sp (qt_ap T (lj_ep L, 2, b, 0, 1) (lj_len L)) b) d = true) 5 m := ls_c (fun d hd => by rw [hsp, r3 d hd]) hm
    have hu0 : rd_set l (rd_g nu st b (qt_sp T b)) b un (16 * m + b) < 8 := by rw [r4 m hm5 (hm.2.2 hm5)]; exact hl
    have E := ap_unit (x := x) (ua := ua) (n := n) (b := b) (m := m) hI1 W hRI hbd hn (by rw [q2]; exact hr0) (by rw [q2, q3]; exact hbb) hm' hm5 hu0
    obtain ⟨r, T', L', D', a1, a2, a3, a4, a5⟩ := E
    refine ⟨r, T', L', D', a1, a2, a3, ?_, ?_⟩
    · rintro post ⟨f_active, f_epoch, a_dataNodeDown, a_journalDown, a_masterDown, a_inTouch, a_promise, a_base, a_logLength, a_logEpoch, a_logKind, a_logA, a_logB, a_logC, a_inodeState, a_inodePlace, a_inodeClient, a_closeUnits, a_rowLength, a_rowBlock, a_blockStamp, a_replicaHeld, a_replicaStamp, a_unitCount, a_unitValue⟩ h1 h2 h3 hp
      refine br_f bo_1 (xm_renewG h1 hI h2 h3 hb hac hiv he hrm1 hb16 hfw (fun _ => ?_) (fun z => absurd (hkp.symm.trans z) (by decide)))
      rintro ⟨f_active, f_epoch, a_dataNodeDown, a_journalDown, a_masterDown, a_inTouch, a_promise, a_base, a_logLength, a_logEpoch, a_logKind, a_logA, a_logB, a_logC, a_inodeState, a_inodePlace, a_inodeClient, a_closeUnits, a_rowLength, a_rowBlock, a_blockStamp, a_replicaHeld, a_replicaStamp, a_unitCount, a_unitValue⟩ g1 g2 g3
      exact br_f bo_1 (br_t rfl (a4 post (f_active, f_epoch, a_dataNodeDown, a_journalDown, a_masterDown, a_inTouch, a_promise, a_base, a_logLength, a_logEpoch, a_logKind, a_logA, a_logB, a_logC, a_inodeState, a_inodePlace, a_inodeClient, a_closeUnits, a_rowLength, a_rowBlock, a_blockStamp, a_replicaHeld, a_replicaStamp, a_unitCount, a_unitValue) g1 g2 g3 hp))
    · rintro post ⟨f_active, f_epoch, a_nodeUp, a_journalUp, a_masterUp, a_touch, a_log, a_many, a_promise, a_base, a_stamp, a_units, a_unit, a_sort, a_placeOf, a_client, a_rowLength, a_row, a_closedWith, a_stampOf⟩ h1 h2 h3 hp
      refine br_f bo_1 (ym_renewG h1 hI h2 h3 hb hac hiv he hrm1 hb16 hin hfw (fun _ => ?_) (fun z => absurd (hkp.symm.trans z) (by decide)))
      rintro ⟨f_active, f_epoch, a_nodeUp, a_journalUp, a_masterUp, a_touch, a_log, a_many, a_promise, a_base, a_stamp, a_units, a_unit, a_sort, a_placeOf, a_client, a_rowLength, a_row, a_closedWith, a_stampOf⟩ g1 g2 g3
      exact br_f bo_1 (br_f (fun z => by have := (nI_eq (b := 8) (by omega) (by decide)).mp z; omega) (a5 post (f_active, f_epoch, a_nodeUp, a_journalUp, a_masterUp, a_touch, a_log, a_many, a_promise, a_base, a_stamp, a_units, a_unit, a_sort, a_placeOf, a_client, a_rowLength, a_row, a_closedWith, a_stampOf) g1 g2 g3 hp))
  | false =>
    rw [if_neg (by rw [hkp]; decide)] at W
    refine ⟨-3, T, lj_wr L 2 b 0 1, _, hI, W, hRI, ?_, ?_⟩
    · rintro post ⟨f_active, f_epoch, a_dataNodeDown, a_journalDown, a_masterDown, a_inTouch, a_promise, a_base, a_logLength, a_logEpoch, a_logKind, a_logA, a_logB, a_logC, a_inodeState, a_inodePlace, a_inodeClient, a_closeUnits, a_rowLength, a_rowBlock, a_blockStamp, a_replicaHeld, a_replicaStamp, a_unitCount, a_unitValue⟩ h1 h2 h3 hp
      refine br_f bo_1 (xm_renewG h1 hI h2 h3 hb hac hiv he hrm1 hb16 hfw (fun z => absurd (hkp.symm.trans z) (by decide)) (fun _ => ?_))
      rintro ⟨f_active, f_epoch, a_dataNodeDown, a_journalDown, a_masterDown, a_inTouch, a_promise, a_base, a_logLength, a_logEpoch, a_logKind, a_logA, a_logB, a_logC, a_inodeState, a_inodePlace, a_inodeClient, a_closeUnits, a_rowLength, a_rowBlock, a_blockStamp, a_replicaHeld, a_replicaStamp, a_unitCount, a_unitValue⟩ g1 g2 g3
      exact br_t rfl (hp _ g1 g2 g3)
    · rintro post ⟨f_active, f_epoch, a_nodeUp, a_journalUp, a_masterUp, a_touch, a_log, a_many, a_promise, a_base, a_stamp, a_units, a_unit, a_sort, a_placeOf, a_client, a_rowLength, a_row, a_closedWith, a_stampOf⟩ h1 h2 h3 hp
      refine br_f bo_1 (ym_renewG h1 hI h2 h3 hb hac hiv he hrm1 hb16 hin hfw (fun z => absurd (hkp.symm.trans z) (by decide)) (fun _ => ?_))
      rintro ⟨f_active, f_epoch, a_nodeUp, a_journalUp, a_masterUp, a_touch, a_log, a_many, a_promise, a_base, a_stamp, a_units, a_unit, a_sort, a_placeOf, a_client, a_rowLength, a_row, a_closedWith, a_stampOf⟩ g2 g3
      exact br_t rfl (hp _ g2 g3)
def bo_c (h : Bool) : Nat := if h then 1 else 0
/-- a new block is wanted -/
theorem ap_100e {b' : Nat} {x4 : Int32} {h : Bool} (hI : qt_iv T) (hiv : lj_iv k L T) (hD : rd_iv L (nu, st, un, ua)) (hb : rd_bd (nu, st, un, ua)) (hn : n < 12) (hfree : ls_f (fun b => ¬ qt_in (qt_rl T) (qt_ro T) b) 16 b')
    (tail : qt_rl T n < 3 → rd_il nu st (fun _ => true) 5 ≠ 0 → b' < 16 → lj_rm L (bo_c h + 1) → oc k T L (nu, st, un, ua) (fun post u => match u with | (f_active, f_epoch, a_dataNodeDown, a_journalDown, a_masterDown, a_inTouch, a_promise, a_base, a_logLength, a_logEpoch, a_logKind, a_logA, a_logB, a_logC, a_inodeState, a_inodePlace, a_inodeClient, a_closeUnits, a_rowLength, a_rowBlock, a_blockStamp, a_replicaHeld, a_replicaStamp, a_unitCount, a_unitValue) => wX_append_177 post (nI n) x x4 (bo_p h) 1 f_active f_epoch a_dataNodeDown a_journalDown a_masterDown a_inTouch a_promise a_base a_logLength a_logEpoch a_logKind a_logA a_logB a_logC a_inodeState a_inodePlace a_inodeClient a_closeUnits a_rowLength a_rowBlock a_blockStamp a_replicaHeld a_replicaStamp a_unitCount a_unitValue) (fun post v => match v with | (f_active, f_epoch, a_nodeUp, a_journalUp, a_masterUp, a_touch, a_log, a_many, a_promise, a_base, a_stamp, a_units, a_unit, a_sort, a_placeOf, a_client, a_rowLength, a_row, a_closedWith, a_stampOf) => wY_append_247 post (nI n) x x4 (bo_p h) 8 (nI b') f_active f_epoch a_nodeUp a_journalUp a_masterUp a_touch a_log a_many a_promise a_base a_stamp a_units a_unit a_sort a_placeOf a_client a_rowLength a_row a_closedWith a_stampOf)) :
    oc k T L (nu, st, un, ua) (fun post u => match u with | (f_active, f_epoch, a_dataNodeDown, a_journalDown, a_masterDown, a_inTouch, a_promise, a_base, a_logLength, a_logEpoch, a_logKind, a_logA, a_logB, a_logC, a_inodeState, a_inodePlace, a_inodeClient, a_closeUnits, a_rowLength, a_rowBlock, a_blockStamp, a_replicaHeld, a_replicaStamp, a_unitCount, a_unitValue) => wX_append_100 post (nI n) x x4 (bo_p h) 1 f_active f_epoch a_dataNodeDown a_journalDown a_masterDown a_inTouch a_promise a_base a_logLength a_logEpoch a_logKind a_logA a_logB a_logC a_inodeState a_inodePlace a_inodeClient a_closeUnits a_rowLength a_rowBlock a_blockStamp a_replicaHeld a_replicaStamp a_unitCount a_unitValue) (fun post v => match v with | (f_active, f_epoch, a_nodeUp, a_journalUp, a_masterUp, a_touch, a_log, a_many, a_promise, a_base, a_stamp, a_units, a_unit, a_sort, a_placeOf, a_client, a_rowLength, a_row, a_closedWith, a_stampOf) => wY_append_159 post (nI n) x x4 (bo_p h) 8 f_active f_epoch a_nodeUp a_journalUp a_masterUp a_touch a_log a_many a_promise a_base a_stamp a_units a_unit a_sort a_placeOf a_client a_rowLength a_row a_closedWith a_stampOf) := by
  have hv := vp_in_nI hn (by decide : 12 < 2 ^ 31)
  have hr3 := qt_iv4 hI n hn
  have hil : rd_il nu st (fun _ => true) 5 ≤ 5 := by
    rcases rd_ilP (nu := nu) (st := st) (ok := fun _ => true) (n := 5) with y | y <;> omega
  have XX : ∀ (post : Int32 → SX → Prop) f_active f_epoch a_dataNodeDown a_journalDown a_masterDown a_inTouch a_promise a_base a_logLength a_logEpoch a_logKind a_logA a_logB a_logC a_inodeState a_inodePlace a_inodeClient a_closeUnits a_rowLength a_rowBlock a_blockStamp a_replicaHeld a_replicaStamp a_unitCount a_unitValue, sx_T T (f_active, f_epoch, a_dataNodeDown, a_journalDown, a_masterDown, a_inTouch, a_promise, a_base, a_logLength, a_logEpoch, a_logKind, a_logA, a_logB, a_logC, a_inodeState, a_inodePlace, a_inodeClient, a_closeUnits, a_rowLength, a_rowBlock, a_blockStamp, a_replicaHeld, a_replicaStamp, a_unitCount, a_unitValue) → sx_L L (f_active, f_epoch, a_dataNodeDown, a_journalDown, a_masterDown, a_inTouch, a_promise, a_base, a_logLength, a_logEpoch, a_logKind, a_logA, a_logB, a_logC, a_inodeState, a_inodePlace, a_inodeClient, a_closeUnits, a_rowLength, a_rowBlock, a_blockStamp, a_replicaHeld, a_replicaStamp, a_unitCount, a_unitValue) → sx_D (nu, st, un, ua) (f_active, f_epoch, a_dataNodeDown, a_journalDown, a_masterDown, a_inTouch, a_promise, a_base, a_logLength, a_logEpoch, a_logKind, a_logA, a_logB, a_logC, a_inodeState, a_inodePlace, a_inodeClient, a_closeUnits, a_rowLength, a_rowBlock, a_blockStamp, a_replicaHeld, a_replicaStamp, a_unitCount, a_unitValue) → (3 ≤ qt_rl T n → post (-2) (f_active, f_epoch, a_dataNodeDown, a_journalDown, a_masterDown, a_inTouch, a_promise, a_base, a_logLength, a_logEpoch, a_logKind, a_logA, a_logB, a_logC, a_inodeState, a_inodePlace, a_inodeClient, a_closeUnits, a_rowLength, a_rowBlock, a_blockStamp, a_replicaHeld, a_replicaStamp, a_unitCount, a_unitValue)) → (qt_rl T n < 3 → rd_il nu st (fun _ => true) 5 = 0 → post (-2) (f_active, f_epoch, a_dataNodeDown, a_journalDown, a_masterDown, a_inTouch, a_promise, a_base, a_logLength, a_logEpoch, a_logKind, a_logA, a_logB, a_logC, a_inodeState, a_inodePlace, a_inodeClient, a_closeUnits, a_rowLength, a_rowBlock, a_blockStamp, a_replicaHeld, a_replicaStamp, a_unitCount, a_unitValue)) → (qt_rl T n < 3 → rd_il nu st (fun _ => true) 5 ≠ 0 → ¬ lj_rm L (bo_c h + 1) → post (-4) (f_active, f_epoch, a_dataNodeDown, a_journalDown, a_masterDown, a_inTouch, a_promise, a_base, a_logLength, a_logEpoch, a_logKind, a_logA, a_logB, a_logC, a_inodeState, a_inodePlace, a_inodeClient, a_closeUnits, a_rowLength, a_rowBlock, a_blockStamp, a_replicaHeld, a_replicaStamp, a_unitCount, a_unitValue)) → (qt_rl T n < 3 → rd_il nu st (fun _ => true) 5 ≠ 0 → lj_rm L (bo_c h + 1) → b' = 16 → post (-4) (f_active, f_epoch, a_dataNodeDown, a_journalDown, a_masterDown, a_inTouch, a_promise, a_base, a_logLength, a_logEpoch, a_logKind, a_logA, a_logB, a_logC, a_inodeState, a_inodePlace, a_inodeClient, a_closeUnits, a_rowLength, a_rowBlock, a_blockStamp, a_replicaHeld, a_replicaStamp, a_unitCount, a_unitValue)) → (qt_rl T n < 3 → rd_il nu st (fun _ => true) 5 ≠ 0 → lj_rm L (bo_c h + 1) → b' < 16 → wX_append_177 post (nI n) x x4 (bo_p h) 1 f_active f_epoch a_dataNodeDown a_journalDown a_masterDown a_inTouch a_promise a_base a_logLength a_logEpoch a_logKind a_logA a_logB a_logC a_inodeState a_inodePlace a_inodeClient a_closeUnits a_rowLength a_rowBlock a_blockStamp a_replicaHeld a_replicaStamp a_unitCount a_unitValue) → wX_append_100 post (nI n) x x4 (bo_p h) 1 f_active f_epoch a_dataNodeDown a_journalDown a_masterDown a_inTouch a_promise a_base a_logLength a_logEpoch a_logKind a_logA a_logB a_logC a_inodeState a_inodePlace a_inodeClient a_closeUnits a_rowLength a_rowBlock a_blockStamp a_replicaHeld a_replicaStamp a_unitCount a_unitValue := by
    intro post f_active f_epoch a_dataNodeDown a_journalDown a_masterDown a_inTouch a_promise a_base a_logLength a_logEpoch a_logKind a_logA a_logB a_logC a_inodeState a_inodePlace a_inodeClient a_closeUnits a_rowLength a_rowBlock a_blockStamp a_replicaHeld a_replicaStamp a_unitCount a_unitValue h1 h2 h3 k0 k1 k2 k3 k4
    refine br_f bo_1 ⟨hv, cd_if (cd_le (c := 3) (qt_ag5 h1 n hn) (by omega) (by omega) (by decide)) k0 (fun z => ?_)⟩
    have LL : ∀ {P : Int32 → Prop}, P (qt_m (rd_il nu st (fun _ => true) 5)) → wpX_leastLoadedNode P (f_active, f_epoch, a_dataNodeDown, a_journalDown, a_masterDown, a_inTouch, a_promise, a_base, a_logLength, a_logEpoch, a_logKind, a_logA, a_logB, a_logC, a_inodeState, a_inodePlace, a_inodeClient, a_closeUnits, a_rowLength, a_rowBlock, a_blockStamp, a_replicaHeld, a_replicaStamp, a_unitCount, a_unitValue) 0 := by
      intro P hP
      have := xm_leastLoadedNode (u := (f_active, f_epoch, a_dataNodeDown, a_journalDown, a_masterDown, a_inTouch, a_promise, a_base, a_logLength, a_logEpoch, a_logKind, a_logA, a_logB, a_logC, a_inodeState, a_inodePlace, a_inodeClient, a_closeUnits, a_rowLength, a_rowBlock, a_blockStamp, a_replicaHeld, a_replicaStamp, a_unitCount, a_unitValue)) (f := fun _ => false) h3 hP
      rw [rd_mk0] at this
      exact this
    refine LL (cd_if (qt_m0E (by omega)) (fun y => k1 (by omega) y) (fun y => ?_))
    have s149 : ∀ z0 z1 : Int32, z1 + z0 = nI (bo_c h + 1) → wX_append_149 post (nI n) x x4 (bo_p h) 1 z0 z1 f_active f_epoch a_dataNodeDown a_journalDown a_masterDown a_inTouch a_promise a_base a_logLength a_logEpoch a_logKind a_logA a_logB a_logC a_inodeState a_inodePlace a_inodeClient a_closeUnits a_rowLength a_rowBlock a_blockStamp a_replicaHeld a_replicaStamp a_unitCount a_unitValue := by
      intro z0 z1 hz
      refine nm_r hz (xm_lackG (R := bo_c h + 1) h2 hiv (by unfold bo_c; split <;> omega) (fun w => br_f bo_1 (k2 (by omega) y w)) (fun w => br_t rfl (br_f bo_1 (xm_leastFreeBlock (u := (f_active, f_epoch, a_dataNodeDown, a_journalDown, a_masterDown, a_inTouch, a_promise, a_base, a_logLength, a_logEpoch, a_logKind, a_logA, a_logB, a_logC, a_inodeState, a_inodePlace, a_inodeClient, a_closeUnits, a_rowLength, a_rowBlock, a_blockStamp, a_replicaHeld, a_replicaStamp, a_unitCount, a_unitValue)) h1 hI hfree ?_))))
      by_cases hb16 : b' < 16
      · rw [ls_vS hb16]
        exact br_f (ix_m1 (by omega)) (k4 (by omega) y w hb16)
      · have e : b' = 16 := by have := hfree.1; omega
        rw [e, ls_vN]
        exact br_t rfl (k3 (by omega) y w e)
    cases h with
    | false => exact br_t rfl (br_f bo_1 (s149 1 0 (by decide)))
    | true => exact br_f bo_1 (br_f bo_1 (s149 1 1 (by decide)))
  have YY : ∀ (post : Int32 → SY → Prop) f_active f_epoch a_nodeUp a_journalUp a_masterUp a_touch a_log a_many a_promise a_base a_stamp a_units a_unit a_sort a_placeOf a_client a_rowLength a_row a_closedWith a_stampOf, sy_T T (f_active, f_epoch, a_nodeUp, a_journalUp, a_masterUp, a_touch, a_log, a_many, a_promise, a_base, a_stamp, a_units, a_unit, a_sort, a_placeOf, a_client, a_rowLength, a_row, a_closedWith, a_stampOf) → sy_L L (f_active, f_epoch, a_nodeUp, a_journalUp, a_masterUp, a_touch, a_log, a_many, a_promise, a_base, a_stamp, a_units, a_unit, a_sort, a_placeOf, a_client, a_rowLength, a_row, a_closedWith, a_stampOf) → sy_D (nu, st, un, ua) (f_active, f_epoch, a_nodeUp, a_journalUp, a_masterUp, a_touch, a_log, a_many, a_promise, a_base, a_stamp, a_units, a_unit, a_sort, a_placeOf, a_client, a_rowLength, a_row, a_closedWith, a_stampOf) → (3 ≤ qt_rl T n → post (-2) (f_active, f_epoch, a_nodeUp, a_journalUp, a_masterUp, a_touch, a_log, a_many, a_promise, a_base, a_stamp, a_units, a_unit, a_sort, a_placeOf, a_client, a_rowLength, a_row, a_closedWith, a_stampOf)) → (qt_rl T n < 3 → rd_il nu st (fun _ => true) 5 = 0 → post (-2) (f_active, f_epoch, a_nodeUp, a_journalUp, a_masterUp, a_touch, a_log, a_many, a_promise, a_base, a_stamp, a_units, a_unit, a_sort, a_placeOf, a_client, a_rowLength, a_row, a_closedWith, a_stampOf)) → (qt_rl T n < 3 → rd_il nu st (fun _ => true) 5 ≠ 0 → b' = 16 → post (-4) (f_active, f_epoch, a_nodeUp, a_journalUp, a_masterUp, a_touch, a_log, a_many, a_promise, a_base, a_stamp, a_units, a_unit, a_sort, a_placeOf, a_client, a_rowLength, a_row, a_closedWith, a_stampOf)) → (qt_rl T n < 3 → rd_il nu st (fun _ => true) 5 ≠ 0 → b' < 16 → ¬ lj_rm L (bo_c h + 1) → post (-4) (f_active, f_epoch, a_nodeUp, a_journalUp, a_masterUp, a_touch, a_log, a_many, a_promise, a_base, a_stamp, a_units, a_unit, a_sort, a_placeOf, a_client, a_rowLength, a_row, a_closedWith, a_stampOf)) → (qt_rl T n < 3 → rd_il nu st (fun _ => true) 5 ≠ 0 → lj_rm L (bo_c h + 1) → b' < 16 → wY_append_247 post (nI n) x x4 (bo_p h) 8 (nI b') f_active f_epoch a_nodeUp a_journalUp a_masterUp a_touch a_log a_many a_promise a_base a_stamp a_units a_unit a_sort a_placeOf a_client a_rowLength a_row a_closedWith a_stampOf) → wY_append_159 post (nI n) x x4 (bo_p h) 8 f_active f_epoch a_nodeUp a_journalUp a_masterUp a_touch a_log a_many a_promise a_base a_stamp a_units a_unit a_sort a_placeOf a_client a_rowLength a_row a_closedWith a_stampOf := by
    intro post f_active f_epoch a_nodeUp a_journalUp a_masterUp a_touch a_log a_many a_promise a_base a_stamp a_units a_unit a_sort a_placeOf a_client a_rowLength a_row a_closedWith a_stampOf h1 h2 h3 k0 k1 k2 k3 k4
    refine br_t rfl ⟨hv, cd_if (cd_e (c := 3) (qt_ag5 h1 n hn) (by omega) (by omega) (by decide)) (fun z => k0 (by omega)) (fun z => ?_)⟩
    have LL : ∀ {P : Int32 → Prop}, P (qt_m (rd_il nu st (fun _ => true) 5)) → wpY_idlest P (f_active, f_epoch, a_nodeUp, a_journalUp, a_masterUp, a_touch, a_log, a_many, a_promise, a_base, a_stamp, a_units, a_unit, a_sort, a_placeOf, a_client, a_rowLength, a_row, a_closedWith, a_stampOf) 31 := by
      intro P hP
      have := ym_idlest (v := (f_active, f_epoch, a_nodeUp, a_journalUp, a_masterUp, a_touch, a_log, a_many, a_promise, a_base, a_stamp, a_units, a_unit, a_sort, a_placeOf, a_client, a_rowLength, a_row, a_closedWith, a_stampOf)) (f := fun _ => true) h3 hb hP
      rw [rd_mk1] at this
      exact this
    refine LL (cd_if (qt_Nm (s := 0) (by omega) (by decide)) (fun y => ym_unused (v := (f_active, f_epoch, a_nodeUp, a_journalUp, a_masterUp, a_touch, a_log, a_many, a_promise, a_base, a_stamp, a_units, a_unit, a_sort, a_placeOf, a_client, a_rowLength, a_row, a_closedWith, a_stampOf)) h1 hI hfree ?_) (fun y => k1 (by omega) (by omega)))
    by_cases hb16 : b' < 16
    · rw [ls_vS hb16]
      have s227 : ∀ z0 z1 : Int32, z1 + z0 = nI (bo_c h + 1) → wY_append_227 post (nI n) x x4 (bo_p h) 8 (nI b') z0 z1 f_active f_epoch a_nodeUp a_journalUp a_masterUp a_touch a_log a_many a_promise a_base a_stamp a_units a_unit a_sort a_placeOf a_client a_rowLength a_row a_closedWith a_stampOf := by
        intro z0 z1 hz
        exact nm_r hz (br_f (fun w => by have := (nI_leI (b := 0) (by unfold bo_c; split <;> omega) (by decide)).mp w; omega) (ym_manyG (R := bo_c h + 1) h2 hiv (by unfold bo_c; split <;> omega) (fun w => br_f bo_1 (k3 (by omega) (by omega) hb16 w)) (fun w => br_t rfl (k4 (by omega) (by omega) w hb16))))
      refine br_t (ix_0 (by omega)) ?_
      cases h with
      | false => exact br_t rfl (br_t rfl (s227 1 0 (by decide)))
      | true => exact br_f bo_1 (br_t rfl (s227 1 1 (by decide)))
    · have e : b' = 16 := by have := hfree.1; omega
      rw [e, ls_vN]
      exact br_f ix_n1 (k2 (by omega) (by omega) e)
  by_cases c1 : qt_rl T n < 3
  · by_cases c2 : rd_il nu st (fun _ => true) 5 = 0
    · refine oc_n (-2) hI hiv hD ?_ ?_
      · rintro post ⟨f_active, f_epoch, a_dataNodeDown, a_journalDown, a_masterDown, a_inTouch, a_promise, a_base, a_logLength, a_logEpoch, a_logKind, a_logA, a_logB, a_logC, a_inodeState, a_inodePlace, a_inodeClient, a_closeUnits, a_rowLength, a_rowBlock, a_blockStamp, a_replicaHeld, a_replicaStamp, a_unitCount, a_unitValue⟩ h1 h2 h3 hp
        exact XX post _ _ _ _ _ _ _ _ _ _ _ _ _ _ _ _ _ _ _ _ _ _ _ _ _ h1 h2 h3 (fun z => by omega) (fun _ _ => hp) (fun _ z => absurd c2 z) (fun _ z => absurd c2 z) (fun _ z => absurd c2 z)
      · rintro post ⟨f_active, f_epoch, a_nodeUp, a_journalUp, a_masterUp, a_touch, a_log, a_many, a_promise, a_base, a_stamp, a_units, a_unit, a_sort, a_placeOf, a_client, a_rowLength, a_row, a_closedWith, a_stampOf⟩ h1 h2 h3 hp
        exact YY post _ _ _ _ _ _ _ _ _ _ _ _ _ _ _ _ _ _ _ _ h1 h2 h3 (fun z => by omega) (fun _ _ => hp) (fun _ z => absurd c2 z) (fun _ z => absurd c2 z) (fun _ z => absurd c2 z)
    · by_cases c3 : b' < 16 ∧ lj_rm L (bo_c h + 1)
      · refine oc_c (tail c1 c2 c3.1 c3.2) ?_ ?_
        · rintro post ⟨f_active, f_epoch, a_dataNodeDown, a_journalDown, a_masterDown, a_inTouch, a_promise, a_base, a_logLength, a_logEpoch, a_logKind, a_logA, a_logB, a_logC, a_inodeState, a_inodePlace, a_inodeClient, a_closeUnits, a_rowLength, a_rowBlock, a_blockStamp, a_replicaHeld, a_replicaStamp, a_unitCount, a_unitValue⟩ h1 h2 h3 hp
          exact XX post _ _ _ _ _ _ _ _ _ _ _ _ _ _ _ _ _ _ _ _ _ _ _ _ _ h1 h2 h3 (fun z => by omega) (fun _ z => absurd z c2) (fun _ _ z => absurd c3.2 z) (fun _ _ _ z => absurd c3.1 (by omega)) (fun _ _ _ _ => hp)
        · rintro post ⟨f_active, f_epoch, a_nodeUp, a_journalUp, a_masterUp, a_touch, a_log, a_many, a_promise, a_base, a_stamp, a_units, a_unit, a_sort, a_placeOf, a_client, a_rowLength, a_row, a_closedWith, a_stampOf⟩ h1 h2 h3 hp
          exact YY post _ _ _ _ _ _ _ _ _ _ _ _ _ _ _ _ _ _ _ _ h1 h2 h3 (fun z => by omega) (fun _ z => absurd z c2) (fun _ _ z => absurd c3.1 (by omega)) (fun _ _ _ z => absurd c3.2 z) (fun _ _ _ _ => hp)
      · refine oc_n (-4) hI hiv hD ?_ ?_
        · rintro post ⟨f_active, f_epoch, a_dataNodeDown, a_journalDown, a_masterDown, a_inTouch, a_promise, a_base, a_logLength, a_logEpoch, a_logKind, a_logA, a_logB, a_logC, a_inodeState, a_inodePlace, a_inodeClient, a_closeUnits, a_rowLength, a_rowBlock, a_blockStamp, a_replicaHeld, a_replicaStamp, a_unitCount, a_unitValue⟩ h1 h2 h3 hp
          exact XX post _ _ _ _ _ _ _ _ _ _ _ _ _ _ _ _ _ _ _ _ _ _ _ _ _ h1 h2 h3 (fun z => by omega) (fun _ z => absurd z c2) (fun _ _ _ => hp) (fun _ _ _ _ => hp) (fun _ _ z1 z2 => absurd ⟨z2, z1⟩ c3)
        · rintro post ⟨f_active, f_epoch, a_nodeUp, a_journalUp, a_masterUp, a_touch, a_log, a_many, a_promise, a_base, a_stamp, a_units, a_unit, a_sort, a_placeOf, a_client, a_rowLength, a_row, a_closedWith, a_stampOf⟩ h1 h2 h3 hp
          exact YY post _ _ _ _ _ _ _ _ _ _ _ _ _ _ _ _ _ _ _ _ h1 h2 h3 (fun z => by omega) (fun _ z => absurd z c2) (fun _ _ _ => hp) (fun _ _ _ _ => hp) (fun _ _ z1 z2 => absurd ⟨z2, z1⟩ c3)
  · refine oc_n (-2) hI hiv hD ?_ ?_
    · rintro post ⟨f_active, f_epoch, a_dataNodeDown, a_journalDown, a_masterDown, a_inTouch, a_promise, a_base, a_logLength, a_logEpoch, a_logKind, a_logA, a_logB, a_logC, a_inodeState, a_inodePlace, a_inodeClient, a_closeUnits, a_rowLength, a_rowBlock, a_blockStamp, a_replicaHeld, a_replicaStamp, a_unitCount, a_unitValue⟩ h1 h2 h3 hp
      exact XX post _ _ _ _ _ _ _ _ _ _ _ _ _ _ _ _ _ _ _ _ _ _ _ _ _ h1 h2 h3 (fun _ => hp) (fun z => absurd z c1) (fun z => absurd z c1) (fun z => absurd z c1) (fun z => absurd z c1)
    · rintro post ⟨f_active, f_epoch, a_nodeUp, a_journalUp, a_masterUp, a_touch, a_log, a_many, a_promise, a_base, a_stamp, a_units, a_unit, a_sort, a_placeOf, a_client, a_rowLength, a_row, a_closedWith, a_stampOf⟩ h1 h2 h3 hp
      exact YY post _ _ _ _ _ _ _ _ _ _ _ _ _ _ _ _ _ _ _ _ h1 h2 h3 (fun _ => hp) (fun z => absurd z c1) (fun z => absurd z c1) (fun z => absurd z c1) (fun z => absurd z c1)
/-- no new block is wanted -/
theorem ap_100u {l : Nat} {x4 : Int32} {h : Bool} (hI : qt_iv T) (hiv : lj_iv k L T) (hD : rd_iv L (nu, st, un, ua)) (hl : l < 8)
    (tail : lj_rm L (bo_c h) → oc k T L (nu, st, un, ua) (fun post u => match u with | (f_active, f_epoch, a_dataNodeDown, a_journalDown, a_masterDown, a_inTouch, a_promise, a_base, a_logLength, a_logEpoch, a_logKind, a_logA, a_logB, a_logC, a_inodeState, a_inodePlace, a_inodeClient, a_closeUnits, a_rowLength, a_rowBlock, a_blockStamp, a_replicaHeld, a_replicaStamp, a_unitCount, a_unitValue) => wX_append_177 post (nI n) x x4 (bo_p h) 0 f_active f_epoch a_dataNodeDown a_journalDown a_masterDown a_inTouch a_promise a_base a_logLength a_logEpoch a_logKind a_logA a_logB a_logC a_inodeState a_inodePlace a_inodeClient a_closeUnits a_rowLength a_rowBlock a_blockStamp a_replicaHeld a_replicaStamp a_unitCount a_unitValue) (fun post v => match v with | (f_active, f_epoch, a_nodeUp, a_journalUp, a_masterUp, a_touch, a_log, a_many, a_promise, a_base, a_stamp, a_units, a_unit, a_sort, a_placeOf, a_client, a_rowLength, a_row, a_closedWith, a_stampOf) => wY_append_247 post (nI n) x x4 (bo_p h) (nI l) (-1) f_active f_epoch a_nodeUp a_journalUp a_masterUp a_touch a_log a_many a_promise a_base a_stamp a_units a_unit a_sort a_placeOf a_client a_rowLength a_row a_closedWith a_stampOf)) :
    oc k T L (nu, st, un, ua) (fun post u => match u with | (f_active, f_epoch, a_dataNodeDown, a_journalDown, a_masterDown, a_inTouch, a_promise, a_base, a_logLength, a_logEpoch, a_logKind, a_logA, a_logB, a_logC, a_inodeState, a_inodePlace, a_inodeClient, a_closeUnits, a_rowLength, a_rowBlock, a_blockStamp, a_replicaHeld, a_replicaStamp, a_unitCount, a_unitValue) => wX_append_100 post (nI n) x x4 (bo_p h) 0 f_active f_epoch a_dataNodeDown a_journalDown a_masterDown a_inTouch a_promise a_base a_logLength a_logEpoch a_logKind a_logA a_logB a_logC a_inodeState a_inodePlace a_inodeClient a_closeUnits a_rowLength a_rowBlock a_blockStamp a_replicaHeld a_replicaStamp a_unitCount a_unitValue) (fun post v => match v with | (f_active, f_epoch, a_nodeUp, a_journalUp, a_masterUp, a_touch, a_log, a_many, a_promise, a_base, a_stamp, a_units, a_unit, a_sort, a_placeOf, a_client, a_rowLength, a_row, a_closedWith, a_stampOf) => wY_append_159 post (nI n) x x4 (bo_p h) (nI l) f_active f_epoch a_nodeUp a_journalUp a_masterUp a_touch a_log a_many a_promise a_base a_stamp a_units a_unit a_sort a_placeOf a_client a_rowLength a_row a_closedWith a_stampOf) := by
  have hl8 : ¬ nI l = 8 := fun z => by have := (nI_eq (b := 8) (by omega) (by decide)).mp z; omega
  cases h with
  | false =>
    refine oc_c (tail (lj_rm0 hiv)) ?_ ?_
    · rintro post ⟨f_active, f_epoch, a_dataNodeDown, a_journalDown, a_masterDown, a_inTouch, a_promise, a_base, a_logLength, a_logEpoch, a_logKind, a_logA, a_logB, a_logC, a_inodeState, a_inodePlace, a_inodeClient, a_closeUnits, a_rowLength, a_rowBlock, a_blockStamp, a_replicaHeld, a_replicaStamp, a_unitCount, a_unitValue⟩ h1 h2 h3 hp
      exact br_t rfl (br_t rfl (br_t rfl (nm_r (by decide : (0 : Int32) + 0 = nI 0) (xm_lackG (R := 0) h2 hiv (by decide) (fun z => absurd (lj_rm0 hiv) z) (fun _ => br_t rfl (br_t rfl hp))))))
    · rintro post ⟨f_active, f_epoch, a_nodeUp, a_journalUp, a_masterUp, a_touch, a_log, a_many, a_promise, a_base, a_stamp, a_units, a_unit, a_sort, a_placeOf, a_client, a_rowLength, a_row, a_closedWith, a_stampOf⟩ h1 h2 h3 hp
      exact br_f hl8 (br_t rfl (br_f hl8 (nm_r (by decide : (0 : Int32) + 0 = 0) (br_t (by decide) hp))))
  | true =>
    by_cases hrm : lj_rm L 1
    · refine oc_c (tail hrm) ?_ ?_
      · rintro post ⟨f_active, f_epoch, a_dataNodeDown, a_journalDown, a_masterDown, a_inTouch, a_promise, a_base, a_logLength, a_logEpoch, a_logKind, a_logA, a_logB, a_logC, a_inodeState, a_inodePlace, a_inodeClient, a_closeUnits, a_rowLength, a_rowBlock, a_blockStamp, a_replicaHeld, a_replicaStamp, a_unitCount, a_unitValue⟩ h1 h2 h3 hp
        exact br_t rfl (br_f bo_1 (br_t rfl (nm_r (by decide : (1 : Int32) + 0 = nI 1) (xm_lackG (R := 1) h2 hiv (by decide) (fun z => absurd hrm z) (fun _ => br_t rfl (br_t rfl hp))))))
      · rintro post ⟨f_active, f_epoch, a_nodeUp, a_journalUp, a_masterUp, a_touch, a_log, a_many, a_promise, a_base, a_stamp, a_units, a_unit, a_sort, a_placeOf, a_client, a_rowLength, a_row, a_closedWith, a_stampOf⟩ h1 h2 h3 hp
        exact br_f hl8 (br_f bo_1 (br_f hl8 (nm_r (by decide : (1 : Int32) + 0 = nI 1) (br_f (by decide) (ym_manyG (R := 1) h2 hiv (by decide) (fun z => absurd hrm z) (fun _ => br_t rfl hp))))))
    · refine oc_n (-4) hI hiv hD ?_ ?_
      · rintro post ⟨f_active, f_epoch, a_dataNodeDown, a_journalDown, a_masterDown, a_inTouch, a_promise, a_base, a_logLength, a_logEpoch, a_logKind, a_logA, a_logB, a_logC, a_inodeState, a_inodePlace, a_inodeClient, a_closeUnits, a_rowLength, a_rowBlock, a_blockStamp, a_replicaHeld, a_replicaStamp, a_unitCount, a_unitValue⟩ h1 h2 h3 hp
        exact br_t rfl (br_f bo_1 (br_t rfl (nm_r (by decide : (1 : Int32) + 0 = nI 1) (xm_lackG (R := 1) h2 hiv (by decide) (fun _ => br_f bo_1 hp) (fun z => absurd z hrm)))))
      · rintro post ⟨f_active, f_epoch, a_nodeUp, a_journalUp, a_masterUp, a_touch, a_log, a_many, a_promise, a_base, a_stamp, a_units, a_unit, a_sort, a_placeOf, a_client, a_rowLength, a_row, a_closedWith, a_stampOf⟩ h1 h2 h3 hp
        exact br_f hl8 (br_f bo_1 (br_f hl8 (nm_r (by decide : (1 : Int32) + 0 = nI 1) (br_f (by decide) (ym_manyG (R := 1) h2 hiv (by decide) (fun _ => br_f bo_1 hp) (fun z => absurd z hrm))))))
end
