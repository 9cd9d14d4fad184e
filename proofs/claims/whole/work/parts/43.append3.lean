/-! append: closed -/
section
variable {k : Nat} {T : qt_T} {L : lj_L} {nu : Nat → Bool} {st un : Nat → Nat} {ua : Nat → Int32} {n : Nat} {x : Int32}
theorem ap_top (hk : k ≤ 2048) (hI : qt_iv T) (hiv : lj_iv k L T) (hD : rd_iv L (nu, st, un, ua)) (hb : rd_bd (nu, st, un, ua)) (hac : 0 < lj_ac L) (he : lj_ep L ≤ 512) (hn : n < 12) (hs : qt_so T n = 2) :
    oc k T L (nu, st, un, ua) (fun post u => match u with | (f_active, f_epoch, a_dataNodeDown, a_journalDown, a_masterDown, a_inTouch, a_promise, a_base, a_logLength, a_logEpoch, a_logKind, a_logA, a_logB, a_logC, a_inodeState, a_inodePlace, a_inodeClient, a_closeUnits, a_rowLength, a_rowBlock, a_blockStamp, a_replicaHeld, a_replicaStamp, a_unitCount, a_unitValue) => wpX_lastBlock (fun r_31 => ((r_31 = (-1) → (wX_append_56 post (nI n) x r_31 f_active f_epoch a_dataNodeDown a_journalDown a_masterDown a_inTouch a_promise a_base a_logLength a_logEpoch a_logKind a_logA a_logB a_logC a_inodeState a_inodePlace a_inodeClient a_closeUnits a_rowLength a_rowBlock a_blockStamp a_replicaHeld a_replicaStamp a_unitCount a_unitValue)) ∧ (¬ r_31 = (-1) → (wpX_canTakeUnit (fun r_284 => ((r_284 = 0 → (post (-2) (f_active, f_epoch, a_dataNodeDown, a_journalDown, a_masterDown, a_inTouch, a_promise, a_base, a_logLength, a_logEpoch, a_logKind, a_logA, a_logB, a_logC, a_inodeState, a_inodePlace, a_inodeClient, a_closeUnits, a_rowLength, a_rowBlock, a_blockStamp, a_replicaHeld, a_replicaStamp, a_unitCount, a_unitValue))) ∧ (¬ r_284 = 0 → (wX_append_56 post (nI n) x r_31 f_active f_epoch a_dataNodeDown a_journalDown a_masterDown a_inTouch a_promise a_base a_logLength a_logEpoch a_logKind a_logA a_logB a_logC a_inodeState a_inodePlace a_inodeClient a_closeUnits a_rowLength a_rowBlock a_blockStamp a_replicaHeld a_replicaStamp a_unitCount a_unitValue)))) (f_active, f_epoch, a_dataNodeDown, a_journalDown, a_masterDown, a_inTouch, a_promise, a_base, a_logLength, a_logEpoch, a_logKind, a_logA, a_logB, a_logC, a_inodeState, a_inodePlace, a_inodeClient, a_closeUnits, a_rowLength, a_rowBlock, a_blockStamp, a_replicaHeld, a_replicaStamp, a_unitCount, a_unitValue) r_31)))) (f_active, f_epoch, a_dataNodeDown, a_journalDown, a_masterDown, a_inTouch, a_promise, a_base, a_logLength, a_logEpoch, a_logKind, a_logA, a_logB, a_logC, a_inodeState, a_inodePlace, a_inodeClient, a_closeUnits, a_rowLength, a_rowBlock, a_blockStamp, a_replicaHeld, a_replicaStamp, a_unitCount, a_unitValue) (nI n))
      (fun post v => match v with | (f_active, f_epoch, a_nodeUp, a_journalUp, a_masterUp, a_touch, a_log, a_many, a_promise, a_base, a_stamp, a_units, a_unit, a_sort, a_placeOf, a_client, a_rowLength, a_row, a_closedWith, a_stampOf) => wpY_last (fun r_49 => ((0 ≤ r_49 → (wpY_first (fun r_71 => (wY_append_66 post (nI n) x r_49 r_71 f_active f_epoch a_nodeUp a_journalUp a_masterUp a_touch a_log a_many a_promise a_base a_stamp a_units a_unit a_sort a_placeOf a_client a_rowLength a_row a_closedWith a_stampOf)) (f_active, f_epoch, a_nodeUp, a_journalUp, a_masterUp, a_touch, a_log, a_many, a_promise, a_base, a_stamp, a_units, a_unit, a_sort, a_placeOf, a_client, a_rowLength, a_row, a_closedWith, a_stampOf) r_49)) ∧ (¬ 0 ≤ r_49 → (wY_append_66 post (nI n) x r_49 (-1) f_active f_epoch a_nodeUp a_journalUp a_masterUp a_touch a_log a_many a_promise a_base a_stamp a_units a_unit a_sort a_placeOf a_client a_rowLength a_row a_closedWith a_stampOf)))) (f_active, f_epoch, a_nodeUp, a_journalUp, a_masterUp, a_touch, a_log, a_many, a_promise, a_base, a_stamp, a_units, a_unit, a_sort, a_placeOf, a_client, a_rowLength, a_row, a_closedWith, a_stampOf) (nI n)) := by
  obtain ⟨b', hfree⟩ := ls_ex (fun b => ¬ qt_in (qt_rl T) (qt_ro T) b) 16
  by_cases hr : qt_rl T n = 0
  · refine oc_c (ap_100e (x := x) (n := n) (x4 := -1) (h := false) hI hiv hD hb hn hfree (fun c1 c2 c3 c4 => oc_c (ap_ext (x := x) (x4 := -1) hI hiv hD hb hac he c4 hn hs c1 hfree c3 c2) ?_ ?_)) ?_ ?_
    · rintro post ⟨f_active, f_epoch, a_dataNodeDown, a_journalDown, a_masterDown, a_inTouch, a_promise, a_base, a_logLength, a_logEpoch, a_logKind, a_logA, a_logB, a_logC, a_inodeState, a_inodePlace, a_inodeClient, a_closeUnits, a_rowLength, a_rowBlock, a_blockStamp, a_replicaHeld, a_replicaStamp, a_unitCount, a_unitValue⟩ h1 h2 h3 hp
      exact br_t rfl hp
    · rintro post ⟨f_active, f_epoch, a_nodeUp, a_journalUp, a_masterUp, a_touch, a_log, a_many, a_promise, a_base, a_stamp, a_units, a_unit, a_sort, a_placeOf, a_client, a_rowLength, a_row, a_closedWith, a_stampOf⟩ h1 h2 h3 hp
      exact br_t rfl hp
    · rintro post ⟨f_active, f_epoch, a_dataNodeDown, a_journalDown, a_masterDown, a_inTouch, a_promise, a_base, a_logLength, a_logEpoch, a_logKind, a_logA, a_logB, a_logC, a_inodeState, a_inodePlace, a_inodeClient, a_closeUnits, a_rowLength, a_rowBlock, a_blockStamp, a_replicaHeld, a_replicaStamp, a_unitCount, a_unitValue⟩ h1 h2 h3 hp
      exact xm_lastBlock (u := (f_active, f_epoch, a_dataNodeDown, a_journalDown, a_masterDown, a_inTouch, a_promise, a_base, a_logLength, a_logEpoch, a_logKind, a_logA, a_logB, a_logC, a_inodeState, a_inodePlace, a_inodeClient, a_closeUnits, a_rowLength, a_rowBlock, a_blockStamp, a_replicaHeld, a_replicaStamp, a_unitCount, a_unitValue)) h1 hI hn (fun _ => br_t rfl (br_t rfl (br_t rfl hp))) (fun z => by omega)
    · rintro post ⟨f_active, f_epoch, a_nodeUp, a_journalUp, a_masterUp, a_touch, a_log, a_many, a_promise, a_base, a_stamp, a_units, a_unit, a_sort, a_placeOf, a_client, a_rowLength, a_row, a_closedWith, a_stampOf⟩ h1 h2 h3 hp
      exact ym_last (v := (f_active, f_epoch, a_nodeUp, a_journalUp, a_masterUp, a_touch, a_log, a_many, a_promise, a_base, a_stamp, a_units, a_unit, a_sort, a_placeOf, a_client, a_rowLength, a_row, a_closedWith, a_stampOf)) h1 hI hn (fun _ => br_f ix_n1 (br_t (by decide) (br_t (by decide) (br_f ix_n1 (br_t (by decide) hp))))) (fun z => by omega)
  · have hr0 : 0 < qt_rl T n := by omega
    have hb16 := qt_iv5 hI n (qt_rl T n - 1) hn (by omega)
    have hin : qt_in (qt_rl T) (qt_ro T) (qt_ro T (3 * n + (qt_rl T n - 1))) := ⟨n, qt_rl T n - 1, hn, by omega, rfl⟩
    generalize hbb : qt_ro T (3 * n + (qt_rl T n - 1)) = b at hb16 hin
    have hw := rd_fwB (f := rd_g nu st b (qt_sp T b)) hb16 hb.2 (n := 5) (by omega)
    obtain ⟨m, hm⟩ := ls_ex (fun d => rd_g nu st b (qt_sp T b) d = true) 5
    have XL : ∀ (post : Int32 → SX → Prop) f_active f_epoch a_dataNodeDown a_journalDown a_masterDown a_inTouch a_promise a_base a_logLength a_logEpoch a_logKind a_logA a_logB a_logC a_inodeState a_inodePlace a_inodeClient a_closeUnits a_rowLength a_rowBlock a_blockStamp a_replicaHeld a_replicaStamp a_unitCount a_unitValue, sx_T T (f_active, f_epoch, a_dataNodeDown, a_journalDown, a_masterDown, a_inTouch, a_promise, a_base, a_logLength, a_logEpoch, a_logKind, a_logA, a_logB, a_logC, a_inodeState, a_inodePlace, a_inodeClient, a_closeUnits, a_rowLength, a_rowBlock, a_blockStamp, a_replicaHeld, a_replicaStamp, a_unitCount, a_unitValue) → sx_D (nu, st, un, ua) (f_active, f_epoch, a_dataNodeDown, a_journalDown, a_masterDown, a_inTouch, a_promise, a_base, a_logLength, a_logEpoch, a_logKind, a_logA, a_logB, a_logC, a_inodeState, a_inodePlace, a_inodeClient, a_closeUnits, a_rowLength, a_rowBlock, a_blockStamp, a_replicaHeld, a_replicaStamp, a_unitCount, a_unitValue) → (rd_ct T nu st un b m → wX_append_56 post (nI n) x (nI b) f_active f_epoch a_dataNodeDown a_journalDown a_masterDown a_inTouch a_promise a_base a_logLength a_logEpoch a_logKind a_logA a_logB a_logC a_inodeState a_inodePlace a_inodeClient a_closeUnits a_rowLength a_rowBlock a_blockStamp a_replicaHeld a_replicaStamp a_unitCount a_unitValue) → (¬ rd_ct T nu st un b m → post (-2) (f_active, f_epoch, a_dataNodeDown, a_journalDown, a_masterDown, a_inTouch, a_promise, a_base, a_logLength, a_logEpoch, a_logKind, a_logA, a_logB, a_logC, a_inodeState, a_inodePlace, a_inodeClient, a_closeUnits, a_rowLength, a_rowBlock, a_blockStamp, a_replicaHeld, a_replicaStamp, a_unitCount, a_unitValue)) → wpX_lastBlock (fun r_31 => ((r_31 = (-1) → (wX_append_56 post (nI n) x r_31 f_active f_epoch a_dataNodeDown a_journalDown a_masterDown a_inTouch a_promise a_base a_logLength a_logEpoch a_logKind a_logA a_logB a_logC a_inodeState a_inodePlace a_inodeClient a_closeUnits a_rowLength a_rowBlock a_blockStamp a_replicaHeld a_replicaStamp a_unitCount a_unitValue)) ∧ (¬ r_31 = (-1) → (wpX_canTakeUnit (fun r_284 => ((r_284 = 0 → (post (-2) (f_active, f_epoch, a_dataNodeDown, a_journalDown, a_masterDown, a_inTouch, a_promise, a_base, a_logLength, a_logEpoch, a_logKind, a_logA, a_logB, a_logC, a_inodeState, a_inodePlace, a_inodeClient, a_closeUnits, a_rowLength, a_rowBlock, a_blockStamp, a_replicaHeld, a_replicaStamp, a_unitCount, a_unitValue))) ∧ (¬ r_284 = 0 → (wX_append_56 post (nI n) x r_31 f_active f_epoch a_dataNodeDown a_journalDown a_masterDown a_inTouch a_promise a_base a_logLength a_logEpoch a_logKind a_logA a_logB a_logC a_inodeState a_inodePlace a_inodeClient a_closeUnits a_rowLength a_rowBlock a_blockStamp a_replicaHeld a_replicaStamp a_unitCount a_unitValue)))) (f_active, f_epoch, a_dataNodeDown, a_journalDown, a_masterDown, a_inTouch, a_promise, a_base, a_logLength, a_logEpoch, a_logKind, a_logA, a_logB, a_logC, a_inodeState, a_inodePlace, a_inodeClient, a_closeUnits, a_rowLength, a_rowBlock, a_blockStamp, a_replicaHeld, a_replicaStamp, a_unitCount, a_unitValue) r_31)))) (f_active, f_epoch, a_dataNodeDown, a_journalDown, a_masterDown, a_inTouch, a_promise, a_base, a_logLength, a_logEpoch, a_logKind, a_logA, a_logB, a_logC, a_inodeState, a_inodePlace, a_inodeClient, a_closeUnits, a_rowLength, a_rowBlock, a_blockStamp, a_replicaHeld, a_replicaStamp, a_unitCount, a_unitValue) (nI n) := by
      intro post f_active f_epoch a_dataNodeDown a_journalDown a_masterDown a_inTouch a_promise a_base a_logLength a_logEpoch a_logKind a_logA a_logB a_logC a_inodeState a_inodePlace a_inodeClient a_closeUnits a_rowLength a_rowBlock a_blockStamp a_replicaHeld a_replicaStamp a_unitCount a_unitValue h1 h3 a1 a0
      refine xm_lastBlock (u := (f_active, f_epoch, a_dataNodeDown, a_journalDown, a_masterDown, a_inTouch, a_promise, a_base, a_logLength, a_logEpoch, a_logKind, a_logA, a_logB, a_logC, a_inodeState, a_inodePlace, a_inodeClient, a_closeUnits, a_rowLength, a_rowBlock, a_blockStamp, a_replicaHeld, a_replicaStamp, a_unitCount, a_unitValue)) h1 hI hn (fun z => absurd z hr) (fun _ => ?_)
      rw [hbb]
      exact br_f (ix_m1 (by omega)) (xm_canTakeUnit (u := (f_active, f_epoch, a_dataNodeDown, a_journalDown, a_masterDown, a_inTouch, a_promise, a_base, a_logLength, a_logEpoch, a_logKind, a_logA, a_logB, a_logC, a_inodeState, a_inodePlace, a_inodeClient, a_closeUnits, a_rowLength, a_rowBlock, a_blockStamp, a_replicaHeld, a_replicaStamp, a_unitCount, a_unitValue)) h1 hI h3 hb hb16 hm (fun z => br_f bo_1 (a1 z)) (fun z => br_t rfl (a0 z)))
    have YL : ∀ (post : Int32 → SY → Prop) f_active f_epoch a_nodeUp a_journalUp a_masterUp a_touch a_log a_many a_promise a_base a_stamp a_units a_unit a_sort a_placeOf a_client a_rowLength a_row a_closedWith a_stampOf, sy_T T (f_active, f_epoch, a_nodeUp, a_journalUp, a_masterUp, a_touch, a_log, a_many, a_promise, a_base, a_stamp, a_units, a_unit, a_sort, a_placeOf, a_client, a_rowLength, a_row, a_closedWith, a_stampOf) → sy_D (nu, st, un, ua) (f_active, f_epoch, a_nodeUp, a_journalUp, a_masterUp, a_touch, a_log, a_many, a_promise, a_base, a_stamp, a_units, a_unit, a_sort, a_placeOf, a_client, a_rowLength, a_row, a_closedWith, a_stampOf) → wY_append_66 post (nI n) x (nI b) (ls_v 5 m) f_active f_epoch a_nodeUp a_journalUp a_masterUp a_touch a_log a_many a_promise a_base a_stamp a_units a_unit a_sort a_placeOf a_client a_rowLength a_row a_closedWith a_stampOf → wpY_last (fun r_49 => ((0 ≤ r_49 → (wpY_first (fun r_71 => (wY_append_66 post (nI n) x r_49 r_71 f_active f_epoch a_nodeUp a_journalUp a_masterUp a_touch a_log a_many a_promise a_base a_stamp a_units a_unit a_sort a_placeOf a_client a_rowLength a_row a_closedWith a_stampOf)) (f_active, f_epoch, a_nodeUp, a_journalUp, a_masterUp, a_touch, a_log, a_many, a_promise, a_base, a_stamp, a_units, a_unit, a_sort, a_placeOf, a_client, a_rowLength, a_row, a_closedWith, a_stampOf) r_49)) ∧ (¬ 0 ≤ r_49 → (wY_append_66 post (nI n) x r_49 (-1) f_active f_epoch a_nodeUp a_journalUp a_masterUp a_touch a_log a_many a_promise a_base a_stamp a_units a_unit a_sort a_placeOf a_client a_rowLength a_row a_closedWith a_stampOf)))) (f_active, f_epoch, a_nodeUp, a_journalUp, a_masterUp, a_touch, a_log, a_many, a_promise, a_base, a_stamp, a_units, a_unit, a_sort, a_placeOf, a_client, a_rowLength, a_row, a_closedWith, a_stampOf) (nI n) := by
      intro post f_active f_epoch a_nodeUp a_journalUp a_masterUp a_touch a_log a_many a_promise a_base a_stamp a_units a_unit a_sort a_placeOf a_client a_rowLength a_row a_closedWith a_stampOf h1 h3 a1
      refine ym_last (v := (f_active, f_epoch, a_nodeUp, a_journalUp, a_masterUp, a_touch, a_log, a_many, a_promise, a_base, a_stamp, a_units, a_unit, a_sort, a_placeOf, a_client, a_rowLength, a_row, a_closedWith, a_stampOf)) h1 hI hn (fun z => absurd z hr) (fun _ => ?_)
      rw [hbb]
      exact br_t (ix_0 (by omega)) (ym_first (v := (f_active, f_epoch, a_nodeUp, a_journalUp, a_masterUp, a_touch, a_log, a_many, a_promise, a_base, a_stamp, a_units, a_unit, a_sort, a_placeOf, a_client, a_rowLength, a_row, a_closedWith, a_stampOf)) h1 hI h3 hb hb16 hin hm a1)
    by_cases hm5 : m < 5
    · obtain ⟨l, hl⟩ : ∃ l, rd_fw (rd_g nu st b (qt_sp T b)) un b 5 = l + 1 := by
        have := (rd_fwL (un := un) (b := b) hm5 (hm.2.2 hm5)).1
        exact ⟨rd_fw (rd_g nu st b (qt_sp T b)) un b 5 - 1, by omega⟩
      have hc : 16 * m + b < 80 := by omega
      have hum := hb.2 _ hc
      obtain ⟨h, hh⟩ : ∃ h : Bool, h = true ↔ rd_hg nu st b (qt_sp T b) := by
        obtain ⟨f, hf⟩ := bo_ex (fun _ => rd_hg nu st b (qt_sp T b))
        exact ⟨f 0, hf 0⟩
      have X56 : ∀ (post : Int32 → SX → Prop) f_active f_epoch a_dataNodeDown a_journalDown a_masterDown a_inTouch a_promise a_base a_logLength a_logEpoch a_logKind a_logA a_logB a_logC a_inodeState a_inodePlace a_inodeClient a_closeUnits a_rowLength a_rowBlock a_blockStamp a_replicaHeld a_replicaStamp a_unitCount a_unitValue, sx_T T (f_active, f_epoch, a_dataNodeDown, a_journalDown, a_masterDown, a_inTouch, a_promise, a_base, a_logLength, a_logEpoch, a_logKind, a_logA, a_logB, a_logC, a_inodeState, a_inodePlace, a_inodeClient, a_closeUnits, a_rowLength, a_rowBlock, a_blockStamp, a_replicaHeld, a_replicaStamp, a_unitCount, a_unitValue) → sx_D (nu, st, un, ua) (f_active, f_epoch, a_dataNodeDown, a_journalDown, a_masterDown, a_inTouch, a_promise, a_base, a_logLength, a_logEpoch, a_logKind, a_logA, a_logB, a_logC, a_inodeState, a_inodePlace, a_inodeClient, a_closeUnits, a_rowLength, a_rowBlock, a_blockStamp, a_replicaHeld, a_replicaStamp, a_unitCount, a_unitValue) → (l = 8 → wX_append_100 post (nI n) x (nI b) (bo_p h) 1 f_active f_epoch a_dataNodeDown a_journalDown a_masterDown a_inTouch a_promise a_base a_logLength a_logEpoch a_logKind a_logA a_logB a_logC a_inodeState a_inodePlace a_inodeClient a_closeUnits a_rowLength a_rowBlock a_blockStamp a_replicaHeld a_replicaStamp a_unitCount a_unitValue) → (l ≠ 8 → wX_append_100 post (nI n) x (nI b) (bo_p h) 0 f_active f_epoch a_dataNodeDown a_journalDown a_masterDown a_inTouch a_promise a_base a_logLength a_logEpoch a_logKind a_logA a_logB a_logC a_inodeState a_inodePlace a_inodeClient a_closeUnits a_rowLength a_rowBlock a_blockStamp a_replicaHeld a_replicaStamp a_unitCount a_unitValue) → wX_append_56 post (nI n) x (nI b) f_active f_epoch a_dataNodeDown a_journalDown a_masterDown a_inTouch a_promise a_base a_logLength a_logEpoch a_logKind a_logA a_logB a_logC a_inodeState a_inodePlace a_inodeClient a_closeUnits a_rowLength a_rowBlock a_blockStamp a_replicaHeld a_replicaStamp a_unitCount a_unitValue := by
        intro post f_active f_epoch a_dataNodeDown a_journalDown a_masterDown a_inTouch a_promise a_base a_logLength a_logEpoch a_logKind a_logA a_logB a_logC a_inodeState a_inodePlace a_inodeClient a_closeUnits a_rowLength a_rowBlock a_blockStamp a_replicaHeld a_replicaStamp a_unitCount a_unitValue h1 h3 a1 a0
        have s76 : wX_append_76 post (nI n) x (nI b) (bo_p h) f_active f_epoch a_dataNodeDown a_journalDown a_masterDown a_inTouch a_promise a_base a_logLength a_logEpoch a_logKind a_logA a_logB a_logC a_inodeState a_inodePlace a_inodeClient a_closeUnits a_rowLength a_rowBlock a_blockStamp a_replicaHeld a_replicaStamp a_unitCount a_unitValue := by
          refine br_f (ix_m1 (by omega)) (xm_fewestUnits (u := (f_active, f_epoch, a_dataNodeDown, a_journalDown, a_masterDown, a_inTouch, a_promise, a_base, a_logLength, a_logEpoch, a_logKind, a_logA, a_logB, a_logC, a_inodeState, a_inodePlace, a_inodeClient, a_closeUnits, a_rowLength, a_rowBlock, a_blockStamp, a_replicaHeld, a_replicaStamp, a_unitCount, a_unitValue)) h1 hI h3 hb hb16 ?_)
          rw [hl, qt_ms]
          exact cd_if (nI_eq (b := 8) (by omega) (by decide)) a1 a0
        refine br_f (ix_m1 (by omega)) (xm_hangs (u := (f_active, f_epoch, a_dataNodeDown, a_journalDown, a_masterDown, a_inTouch, a_promise, a_base, a_logLength, a_logEpoch, a_logKind, a_logA, a_logB, a_logC, a_inodeState, a_inodePlace, a_inodeClient, a_closeUnits, a_rowLength, a_rowBlock, a_blockStamp, a_replicaHeld, a_replicaStamp, a_unitCount, a_unitValue)) h1 hI h3 hb hb16 (fun z => br_f bo_1 ?_) (fun z => br_t rfl ?_))
        · rw [hh.mpr z] at s76; exact s76
        · rw [show h = false by cases h; rfl; exact absurd (hh.mp rfl) z] at s76; exact s76
      have Y66 : ∀ (post : Int32 → SY → Prop) f_active f_epoch a_nodeUp a_journalUp a_masterUp a_touch a_log a_many a_promise a_base a_stamp a_units a_unit a_sort a_placeOf a_client a_rowLength a_row a_closedWith a_stampOf, sy_T T (f_active, f_epoch, a_nodeUp, a_journalUp, a_masterUp, a_touch, a_log, a_many, a_promise, a_base, a_stamp, a_units, a_unit, a_sort, a_placeOf, a_client, a_rowLength, a_row, a_closedWith, a_stampOf) → sy_D (nu, st, un, ua) (f_active, f_epoch, a_nodeUp, a_journalUp, a_masterUp, a_touch, a_log, a_many, a_promise, a_base, a_stamp, a_units, a_unit, a_sort, a_placeOf, a_client, a_rowLength, a_row, a_closedWith, a_stampOf) → (rd_ct T nu st un b m → wY_append_159 post (nI n) x (nI b) (bo_p h) (nI l) f_active f_epoch a_nodeUp a_journalUp a_masterUp a_touch a_log a_many a_promise a_base a_stamp a_units a_unit a_sort a_placeOf a_client a_rowLength a_row a_closedWith a_stampOf) → (¬ rd_ct T nu st un b m → post (-2) (f_active, f_epoch, a_nodeUp, a_journalUp, a_masterUp, a_touch, a_log, a_many, a_promise, a_base, a_stamp, a_units, a_unit, a_sort, a_placeOf, a_client, a_rowLength, a_row, a_closedWith, a_stampOf)) → wY_append_66 post (nI n) x (nI b) (ls_v 5 m) f_active f_epoch a_nodeUp a_journalUp a_masterUp a_touch a_log a_many a_promise a_base a_stamp a_units a_unit a_sort a_placeOf a_client a_rowLength a_row a_closedWith a_stampOf := by
        intro post f_active f_epoch a_nodeUp a_journalUp a_masterUp a_touch a_log a_many a_promise a_base a_stamp a_units a_unit a_sort a_placeOf a_client a_rowLength a_row a_closedWith a_stampOf h1 h3 a1 a0
        rw [ls_vS hm5]
        have eu : a_units (nI (16 * m + b)).toNatClampNeg = nI (un (16 * m + b)) := by rw [nI_clamp (by omega)]; exact h3.2.2.1 _ hc
        have s119 : wY_append_119 post (nI n) x (nI b) (nI m) (bo_p h) (nI l) f_active f_epoch a_nodeUp a_journalUp a_masterUp a_touch a_log a_many a_promise a_base a_stamp a_units a_unit a_sort a_placeOf a_client a_rowLength a_row a_closedWith a_stampOf := by
          refine br_f (nI_pos (by omega)) (cd_if bo_p0 (fun z => ?_) (fun z => a1 ⟨hm5, Or.inl (hh.mp (by simpa using z))⟩))
          rw [show 16 * nI m + nI b = nI (16 * m + b) from mu_l m 16 b, eu]
          refine ⟨vp_in_nI hc (by decide), cd_if (nI_eq (b := 8) (by omega) (by decide)) (fun y => cd_if (nI_leI (a := 8) (by decide) (by omega)) (fun w => a1 ⟨hm5, Or.inr (Or.inr (by omega))⟩) (fun w => a0 (fun q => ?_))) (fun y => a1 ⟨hm5, Or.inr (Or.inl (by omega))⟩)⟩
          rcases q.2 with q | q | q
          · rw [hh.mpr q] at z; exact absurd z (by decide)
          · omega
          · omega
        have s100 : wY_append_100 post (nI n) x (nI b) (nI m) (bo_p h) f_active f_epoch a_nodeUp a_journalUp a_masterUp a_touch a_log a_many a_promise a_base a_stamp a_units a_unit a_sort a_placeOf a_client a_rowLength a_row a_closedWith a_stampOf := by
          refine br_t (ix_0 (by omega)) (ym_bound0 (v := (f_active, f_epoch, a_nodeUp, a_journalUp, a_masterUp, a_touch, a_log, a_many, a_promise, a_base, a_stamp, a_units, a_unit, a_sort, a_placeOf, a_client, a_rowLength, a_row, a_closedWith, a_stampOf)) h1 hI h3 hb hb16 hin ?_)
          rw [hl, qt_ms]
          exact s119
        refine br_f (nI_pos (by omega)) (br_t (ix_0 (by omega)) (br_f (nI_pos (by omega)) (ym_hangs (v := (f_active, f_epoch, a_nodeUp, a_journalUp, a_masterUp, a_touch, a_log, a_many, a_promise, a_base, a_stamp, a_units, a_unit, a_sort, a_placeOf, a_client, a_rowLength, a_row, a_closedWith, a_stampOf)) h1 hI h3 hb hb16 hin (fun z => br_f bo_1 ?_) (fun z => br_t rfl ?_))))
        · rw [hh.mpr z] at s100; exact s100
        · rw [show h = false by cases h; rfl; exact absurd (hh.mp rfl) z] at s100; exact s100
      by_cases hct : rd_ct T nu st un b m
      · by_cases hl8 : l = 8
        · subst hl8
          refine oc_c (ap_100e (x := x) (n := n) (x4 := nI b) (h := h) hI hiv hD hb hn hfree (fun c1 c2 c3 c4 => ?_)) ?_ ?_
          · cases h with
            | false =>
              refine oc_c (ap_ext (x := x) (x4 := nI b) hI hiv hD hb hac he c4 hn hs c1 hfree c3 c2) ?_ ?_
              · rintro post ⟨f_active, f_epoch, a_dataNodeDown, a_journalDown, a_masterDown, a_inTouch, a_promise, a_base, a_logLength, a_logEpoch, a_logKind, a_logA, a_logB, a_logC, a_inodeState, a_inodePlace, a_inodeClient, a_closeUnits, a_rowLength, a_rowBlock, a_blockStamp, a_replicaHeld, a_replicaStamp, a_unitCount, a_unitValue⟩ h1 h2 h3 hp
                exact br_t rfl hp
              · rintro post ⟨f_active, f_epoch, a_nodeUp, a_journalUp, a_masterUp, a_touch, a_log, a_many, a_promise, a_base, a_stamp, a_units, a_unit, a_sort, a_placeOf, a_client, a_rowLength, a_row, a_closedWith, a_stampOf⟩ h1 h2 h3 hp
                exact br_t rfl hp
            | true => exact ap_renE hk hI hiv hD hb hac he c4 hn hs c1 hfree c3 c2 hb16 hin (by decide) hl
          · rintro post ⟨f_active, f_epoch, a_dataNodeDown, a_journalDown, a_masterDown, a_inTouch, a_promise, a_base, a_logLength, a_logEpoch, a_logKind, a_logA, a_logB, a_logC, a_inodeState, a_inodePlace, a_inodeClient, a_closeUnits, a_rowLength, a_rowBlock, a_blockStamp, a_replicaHeld, a_replicaStamp, a_unitCount, a_unitValue⟩ h1 h2 h3 hp
            exact XL post _ _ _ _ _ _ _ _ _ _ _ _ _ _ _ _ _ _ _ _ _ _ _ _ _ h1 h3 (fun _ => X56 post _ _ _ _ _ _ _ _ _ _ _ _ _ _ _ _ _ _ _ _ _ _ _ _ _ h1 h3 (fun _ => hp) (fun z => absurd rfl z)) (fun z => absurd hct z)
          · rintro post ⟨f_active, f_epoch, a_nodeUp, a_journalUp, a_masterUp, a_touch, a_log, a_many, a_promise, a_base, a_stamp, a_units, a_unit, a_sort, a_placeOf, a_client, a_rowLength, a_row, a_closedWith, a_stampOf⟩ h1 h2 h3 hp
            exact YL post _ _ _ _ _ _ _ _ _ _ _ _ _ _ _ _ _ _ _ _ h1 h3 (Y66 post _ _ _ _ _ _ _ _ _ _ _ _ _ _ _ _ _ _ _ _ h1 h3 (fun _ => hp) (fun z => absurd hct z))
        · refine oc_c (ap_100u (x := x) (n := n) (l := l) (x4 := nI b) (h := h) hI hiv hD (by omega) (fun c4 => ?_)) ?_ ?_
          · cases h with
            | false =>
              have hu8 : un (16 * m + b) < 8 := by
                rcases hct.2 with q | q | q
                · exact absurd (hh.mpr q) (by decide)
                · exact q
                · omega
              refine oc_c (ap_unit (x := x) hI hiv hD hb hn hr0 hbb hm hm5 hu8) ?_ ?_
              · rintro post ⟨f_active, f_epoch, a_dataNodeDown, a_journalDown, a_masterDown, a_inTouch, a_promise, a_base, a_logLength, a_logEpoch, a_logKind, a_logA, a_logB, a_logC, a_inodeState, a_inodePlace, a_inodeClient, a_closeUnits, a_rowLength, a_rowBlock, a_blockStamp, a_replicaHeld, a_replicaStamp, a_unitCount, a_unitValue⟩ h1 h2 h3 hp
                exact br_t rfl (br_t rfl hp)
              · rintro post ⟨f_active, f_epoch, a_nodeUp, a_journalUp, a_masterUp, a_touch, a_log, a_many, a_promise, a_base, a_stamp, a_units, a_unit, a_sort, a_placeOf, a_client, a_rowLength, a_row, a_closedWith, a_stampOf⟩ h1 h2 h3 hp
                exact br_t rfl (br_f (fun z => by have := (nI_eq (b := 8) (by omega) (by decide)).mp z; omega) hp)
            | true => exact ap_renU hk hI hiv hD hb hac he c4 hn hr0 hbb hm hm5 (by omega) hl
          · rintro post ⟨f_active, f_epoch, a_dataNodeDown, a_journalDown, a_masterDown, a_inTouch, a_promise, a_base, a_logLength, a_logEpoch, a_logKind, a_logA, a_logB, a_logC, a_inodeState, a_inodePlace, a_inodeClient, a_closeUnits, a_rowLength, a_rowBlock, a_blockStamp, a_replicaHeld, a_replicaStamp, a_unitCount, a_unitValue⟩ h1 h2 h3 hp
            exact XL post _ _ _ _ _ _ _ _ _ _ _ _ _ _ _ _ _ _ _ _ _ _ _ _ _ h1 h3 (fun _ => X56 post _ _ _ _ _ _ _ _ _ _ _ _ _ _ _ _ _ _ _ _ _ _ _ _ _ h1 h3 (fun z => absurd z hl8) (fun _ => hp)) (fun z => absurd hct z)
          · rintro post ⟨f_active, f_epoch, a_nodeUp, a_journalUp, a_masterUp, a_touch, a_log, a_many, a_promise, a_base, a_stamp, a_units, a_unit, a_sort, a_placeOf, a_client, a_rowLength, a_row, a_closedWith, a_stampOf⟩ h1 h2 h3 hp
            exact YL post _ _ _ _ _ _ _ _ _ _ _ _ _ _ _ _ _ _ _ _ h1 h3 (Y66 post _ _ _ _ _ _ _ _ _ _ _ _ _ _ _ _ _ _ _ _ h1 h3 (fun _ => hp) (fun z => absurd hct z))
      · refine oc_n (-2) hI hiv hD ?_ ?_
        · rintro post ⟨f_active, f_epoch, a_dataNodeDown, a_journalDown, a_masterDown, a_inTouch, a_promise, a_base, a_logLength, a_logEpoch, a_logKind, a_logA, a_logB, a_logC, a_inodeState, a_inodePlace, a_inodeClient, a_closeUnits, a_rowLength, a_rowBlock, a_blockStamp, a_replicaHeld, a_replicaStamp, a_unitCount, a_unitValue⟩ h1 h2 h3 hp
          exact XL post _ _ _ _ _ _ _ _ _ _ _ _ _ _ _ _ _ _ _ _ _ _ _ _ _ h1 h3 (fun z => absurd z hct) (fun _ => hp)
        · rintro post ⟨f_active, f_epoch, a_nodeUp, a_journalUp, a_masterUp, a_touch, a_log, a_many, a_promise, a_base, a_stamp, a_units, a_unit, a_sort, a_placeOf, a_client, a_rowLength, a_row, a_closedWith, a_stampOf⟩ h1 h2 h3 hp
          exact YL post _ _ _ _ _ _ _ _ _ _ _ _ _ _ _ _ _ _ _ _ h1 h3 (Y66 post _ _ _ _ _ _ _ _ _ _ _ _ _ _ _ _ _ _ _ _ h1 h3 (fun z => absurd z hct) (fun _ => hp))
    · have e5 : m = 5 := by have := hm.1; omega
      refine oc_n (-2) hI hiv hD ?_ ?_
      · rintro post ⟨f_active, f_epoch, a_dataNodeDown, a_journalDown, a_masterDown, a_inTouch, a_promise, a_base, a_logLength, a_logEpoch, a_logKind, a_logA, a_logB, a_logC, a_inodeState, a_inodePlace, a_inodeClient, a_closeUnits, a_rowLength, a_rowBlock, a_blockStamp, a_replicaHeld, a_replicaStamp, a_unitCount, a_unitValue⟩ h1 h2 h3 hp
        exact XL post _ _ _ _ _ _ _ _ _ _ _ _ _ _ _ _ _ _ _ _ _ _ _ _ _ h1 h3 (fun z => absurd z.1 hm5) (fun _ => hp)
      · rintro post ⟨f_active, f_epoch, a_nodeUp, a_journalUp, a_masterUp, a_touch, a_log, a_many, a_promise, a_base, a_stamp, a_units, a_unit, a_sort, a_placeOf, a_client, a_rowLength, a_row, a_closedWith, a_stampOf⟩ h1 h2 h3 hp
        refine YL post _ _ _ _ _ _ _ _ _ _ _ _ _ _ _ _ _ _ _ _ h1 h3 ?_
        rw [e5, ls_vN]
        exact br_f (nI_pos (by omega)) (br_f ix_n1 hp)
end
theorem i_vc_append {k : Nat} {u : SX} {v : SY} (I : i_Rel k u v) (hk : k + 4 ≤ 2048) (v1 : Int32) (v2 : Int32) (v3 : Int32) : wpX_append (fun r u' => wpY_append (fun r' v' => r' = r ∧ i_Rel (k + 4) u' v') v v1 v2 v3) u v1 v2 v3 := by
  have I' := i_up I
  obtain ⟨T, L, ⟨nu, st, un, ua⟩, h1, h2, h3, h4, h5, h6, h7, h8⟩ := I
  have h7' := lj_ivK (show k ≤ k + 4 by omega) h7
  have hb := rl_bd h7' (by omega) h8
  have he := rl_ep h7' (by omega)
  obtain ⟨n, hn⟩ := ix_e v2 (N := 12) (by decide)
  have hac2 : lj_ac L ≤ 2 := by obtain ⟨mu, ju, ac, ep, to, pr, ba, le, lg⟩ := L; exact h7.2.1
  have R0 : ∀ v', sy_L L v' → sy_D (nu, st, un, ua) v' → i_Rel (k + 4) u v' := fun v' g1 g2 => ⟨T, _, _, h1, h2, h3, g1, g2, h6, h7', h8⟩
  obtain ⟨f_active, f_epoch, a_dataNodeDown, a_journalDown, a_masterDown, a_inTouch, a_promise, a_base, a_logLength, a_logEpoch, a_logKind, a_logA, a_logB, a_logC, a_inodeState, a_inodePlace, a_inodeClient, a_closeUnits, a_rowLength, a_rowBlock, a_blockStamp, a_replicaHeld, a_replicaStamp, a_unitCount, a_unitValue⟩ := u
  obtain ⟨g_active, g_epoch, a_nodeUp, a_journalUp, a_masterUp, a_touch, a_log, a_many, b_promise, b_base, a_stamp, a_units, a_unit, a_sort, a_placeOf, a_client, b_rowLength, a_row, a_closedWith, a_stampOf⟩ := v
  have eX : f_active = qt_m (lj_ac L) := by obtain ⟨mu, ju, ac, ep, to, pr, ba, le, lg⟩ := L; exact h2.1
  have eY : g_active = qt_m (lj_ac L) := by obtain ⟨mu, ju, ac, ep, to, pr, ba, le, lg⟩ := L; exact h4.1
  by_cases ha : lj_ac L = 0
  · exact br_t ((xm_act eX hac2).mpr ha) (br_f (fun z => by have := (ym_act eY hac2).mp z; omega) ⟨rfl, I'⟩)
  have hac : 0 < lj_ac L := by omega
  by_cases hA : n < 12 ∧ qt_so T n = 2 ∧ v1 = qt_m (qt_cl T n)
  · obtain ⟨hlt, hs, hcl⟩ := hA
    have e := ix_i hn hlt
    subst e
    obtain ⟨r, T', L', D', a1, a2, a3, a4, a5⟩ := ap_top (x := v3) (n := n) (by omega) h6 h7' h8 hb hac he hlt hs
    have hv := vp_in_nI hlt (by decide : 12 < 2 ^ 31)
    have hc : (nI n).toNatClampNeg = n := nI_clamp (by omega)
    have Y : ∀ u', sx_T T' u' → sx_L L' u' → sx_D D' u' → wpY_append (fun r' v' => r' = r ∧ i_Rel (k + 4) u' v') (g_active, g_epoch, a_nodeUp, a_journalUp, a_masterUp, a_touch, a_log, a_many, b_promise, b_base, a_stamp, a_units, a_unit, a_sort, a_placeOf, a_client, b_rowLength, a_row, a_closedWith, a_stampOf) v1 (nI n) v3 := by
      intro u' b1 b2 b3
      refine br_t ((ym_act eY hac2).mpr hac) (ym_tellL h7' h4 h5 ?_)
      rintro ⟨f_active, f_epoch, a_nodeUp, a_journalUp, a_masterUp, a_touch, a_log, a_many, a_promise, a_base, a_stamp, a_units, a_unit, a_sort, a_placeOf, a_client, a_rowLength, a_row, a_closedWith, a_stampOf⟩ gT gL gD
      have gT := gT hac
      have K := a5 (fun r' v' => r' = r ∧ i_Rel (k + 4) u' v') (f_active, f_epoch, a_nodeUp, a_journalUp, a_masterUp, a_touch, a_log, a_many, a_promise, a_base, a_stamp, a_units, a_unit, a_sort, a_placeOf, a_client, a_rowLength, a_row, a_closedWith, a_stampOf) gT gL gD (fun v' m1 m2 => ⟨rfl, T', L', D', b1, b2, b3, m1, m2, a1, a2, a3⟩)
      refine ym_isFile (v := (f_active, f_epoch, a_nodeUp, a_journalUp, a_masterUp, a_touch, a_log, a_many, a_promise, a_base, a_stamp, a_units, a_unit, a_sort, a_placeOf, a_client, a_rowLength, a_row, a_closedWith, a_stampOf)) gT h6 hn (fun _ _ => br_f bo_1 ⟨hv, br_t ((cd_e (c := 2) (qt_ag1 gT n hlt) (by omega) (by omega) (by decide)).mpr hs) ⟨hv, br_t ?_ K⟩⟩) (fun z => absurd (z hlt) (by omega))
      rw [hc, qt_ag3 gT n hlt hs]
      exact hcl.symm
    have K := a4 (fun r u' => wpY_append (fun r' v' => r' = r ∧ i_Rel (k + 4) u' v') (g_active, g_epoch, a_nodeUp, a_journalUp, a_masterUp, a_touch, a_log, a_many, b_promise, b_base, a_stamp, a_units, a_unit, a_sort, a_placeOf, a_client, b_rowLength, a_row, a_closedWith, a_stampOf) v1 (nI n) v3) (f_active, f_epoch, a_dataNodeDown, a_journalDown, a_masterDown, a_inTouch, a_promise, a_base, a_logLength, a_logEpoch, a_logKind, a_logA, a_logB, a_logC, a_inodeState, a_inodePlace, a_inodeClient, a_closeUnits, a_rowLength, a_rowBlock, a_blockStamp, a_replicaHeld, a_replicaStamp, a_unitCount, a_unitValue) h1 h2 h3 Y
    refine br_f (fun z => ha ((xm_act eX hac2).mp z)) (xm_isOpen (u := (f_active, f_epoch, a_dataNodeDown, a_journalDown, a_masterDown, a_inTouch, a_promise, a_base, a_logLength, a_logEpoch, a_logKind, a_logA, a_logB, a_logC, a_inodeState, a_inodePlace, a_inodeClient, a_closeUnits, a_rowLength, a_rowBlock, a_blockStamp, a_replicaHeld, a_replicaStamp, a_unitCount, a_unitValue)) h1 h6 hn (fun _ _ => br_f bo_1 ⟨hv, br_t ?_ K⟩) (fun z => absurd hs (z hlt)))
    rw [hc, qt_ag3 h1 n hlt hs]
    exact hcl.symm
  · have Y : wpY_append (fun r' v' => r' = -2 ∧ i_Rel (k + 4) (f_active, f_epoch, a_dataNodeDown, a_journalDown, a_masterDown, a_inTouch, a_promise, a_base, a_logLength, a_logEpoch, a_logKind, a_logA, a_logB, a_logC, a_inodeState, a_inodePlace, a_inodeClient, a_closeUnits, a_rowLength, a_rowBlock, a_blockStamp, a_replicaHeld, a_replicaStamp, a_unitCount, a_unitValue) v') (g_active, g_epoch, a_nodeUp, a_journalUp, a_masterUp, a_touch, a_log, a_many, b_promise, b_base, a_stamp, a_units, a_unit, a_sort, a_placeOf, a_client, b_rowLength, a_row, a_closedWith, a_stampOf) v1 v2 v3 := by
      refine br_t ((ym_act eY hac2).mpr hac) (ym_tellL h7' h4 h5 ?_)
      generalize hQ : (fun (r' : Int32) v' => r' = -2 ∧ i_Rel (k + 4) (f_active, f_epoch, a_dataNodeDown, a_journalDown, a_masterDown, a_inTouch, a_promise, a_base, a_logLength, a_logEpoch, a_logKind, a_logA, a_logB, a_logC, a_inodeState, a_inodePlace, a_inodeClient, a_closeUnits, a_rowLength, a_rowBlock, a_blockStamp, a_replicaHeld, a_replicaStamp, a_unitCount, a_unitValue) v') = post
      have hpost : ∀ v', sy_L L v' → sy_D (nu, st, un, ua) v' → post (-2) v' := by
        intro v' m1 m2
        rw [← hQ]
        exact ⟨rfl, R0 v' m1 m2⟩
      rintro ⟨f_active, f_epoch, a_nodeUp, a_journalUp, a_masterUp, a_touch, a_log, a_many, a_promise, a_base, a_stamp, a_units, a_unit, a_sort, a_placeOf, a_client, a_rowLength, a_row, a_closedWith, a_stampOf⟩ gT gL gD
      have gT := gT hac
      refine ym_isFile (v := (f_active, f_epoch, a_nodeUp, a_journalUp, a_masterUp, a_touch, a_log, a_many, a_promise, a_base, a_stamp, a_units, a_unit, a_sort, a_placeOf, a_client, a_rowLength, a_row, a_closedWith, a_stampOf)) gT h6 hn (fun hlt h2s => br_f bo_1 ?_) (fun z => br_t rfl (hpost _ gL gD))
      have e := ix_i hn hlt
      subst e
      have hv := vp_in_nI hlt (by decide : 12 < 2 ^ 31)
      have hc : (nI n).toNatClampNeg = n := nI_clamp (by omega)
      have hs3 := qt_iv3 h6 n hlt
      refine ⟨hv, cd_if (cd_e (c := 2) (qt_ag1 gT n hlt) (by omega) (by omega) (by decide)) (fun hs => ⟨hv, br_f (fun z => hA ⟨hlt, hs, ?_⟩) (hpost _ gL gD)⟩) (fun hs => hpost _ gL gD)⟩
      rw [hc, qt_ag3 gT n hlt hs] at z
      exact z.symm
    refine br_f (fun z => ha ((xm_act eX hac2).mp z)) (xm_isOpen (u := (f_active, f_epoch, a_dataNodeDown, a_journalDown, a_masterDown, a_inTouch, a_promise, a_base, a_logLength, a_logEpoch, a_logKind, a_logA, a_logB, a_logC, a_inodeState, a_inodePlace, a_inodeClient, a_closeUnits, a_rowLength, a_rowBlock, a_blockStamp, a_replicaHeld, a_replicaStamp, a_unitCount, a_unitValue)) h1 h6 hn (fun hlt hs => br_f bo_1 ?_) (fun z => br_t rfl Y))
    have e := ix_i hn hlt
    subst e
    refine ⟨vp_in_nI hlt (by decide), br_f (fun z => hA ⟨hlt, hs, ?_⟩) Y⟩
    rw [nI_clamp (by omega), qt_ag3 h1 n hlt hs] at z
    exact z.symm
