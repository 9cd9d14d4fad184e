/-! close: closed -/
section
variable {k : Nat} {T : qt_T} {L : lj_L} {nu : Nat → Bool} {st un : Nat → Nat} {ua : Nat → Int32} {n : Nat}
theorem xm_canBeClosed {u : SX} (h : sx_T T u) (hI : qt_iv T) (hD : sx_D (nu, st, un, ua) u) (hb : rd_bd (nu, st, un, ua)) {post : Int32 → Prop} {b : Nat} {z : Int32} (hb16 : b < 16) (h1 : 0 < rd_fw (rd_g nu st b (qt_sp T b)) un b 5 → (z = 0 → rd_fw (rd_g nu st b (qt_sp T b)) un b 5 = rd_mo (rd_g nu st b (qt_sp T b)) un b 5) → post 1) (h0 : (rd_fw (rd_g nu st b (qt_sp T b)) un b 5 = 0 ∨ (z = 0 ∧ rd_fw (rd_g nu st b (qt_sp T b)) un b 5 ≠ rd_mo (rd_g nu st b (qt_sp T b)) un b 5)) → post 0) : wpX_canBeClosed post u (nI b) z := by
  obtain ⟨f_active, f_epoch, a_dataNodeDown, a_journalDown, a_masterDown, a_inTouch, a_promise, a_base, a_logLength, a_logEpoch, a_logKind, a_logA, a_logB, a_logC, a_inodeState, a_inodePlace, a_inodeClient, a_closeUnits, a_rowLength, a_rowBlock, a_blockStamp, a_replicaHeld, a_replicaStamp, a_unitCount, a_unitValue⟩ := u
  unfold wpX_canBeClosed
  have hw := rd_fwB (f := rd_g nu st b (qt_sp T b)) hb16 hb.2 (n := 5) (by omega)
  have ho := rd_moB (f := rd_g nu st b (qt_sp T b)) hb16 hb.2 (n := 5) (by omega)
  refine xm_goodNodes (u := (f_active, f_epoch, a_dataNodeDown, a_journalDown, a_masterDown, a_inTouch, a_promise, a_base, a_logLength, a_logEpoch, a_logKind, a_logA, a_logB, a_logC, a_inodeState, a_inodePlace, a_inodeClient, a_closeUnits, a_rowLength, a_rowBlock, a_blockStamp, a_replicaHeld, a_replicaStamp, a_unitCount, a_unitValue)) h hI hD hb hb16 (cd_if (rd_z _) (fun y => h0 (Or.inl (rd_fw0 y))) (fun y => ?_))
  have hf : 0 < rd_fw (rd_g nu st b (qt_sp T b)) un b 5 := by
    refine Classical.byContradiction (fun x => y (fun d hd => ?_))
    cases hg : rd_g nu st b (qt_sp T b) d with
    | false => rfl
    | true => exact absurd (rd_fwL (un := un) (b := b) hd hg).1 x
  refine cd_if Iff.rfl (fun z0 => xm_fewestUnits (u := (f_active, f_epoch, a_dataNodeDown, a_journalDown, a_masterDown, a_inTouch, a_promise, a_base, a_logLength, a_logEpoch, a_logKind, a_logA, a_logB, a_logC, a_inodeState, a_inodePlace, a_inodeClient, a_closeUnits, a_rowLength, a_rowBlock, a_blockStamp, a_replicaHeld, a_replicaStamp, a_unitCount, a_unitValue)) h hI hD hb hb16 (xm_mostUnits (u := (f_active, f_epoch, a_dataNodeDown, a_journalDown, a_masterDown, a_inTouch, a_promise, a_base, a_logLength, a_logEpoch, a_logKind, a_logA, a_logB, a_logC, a_inodeState, a_inodePlace, a_inodeClient, a_closeUnits, a_rowLength, a_rowBlock, a_blockStamp, a_replicaHeld, a_replicaStamp, a_unitCount, a_unitValue)) h hI hD hb hb16 (cd_if (qt_mE (by omega) (by omega)) (fun x => h1 hf (fun _ => x)) (fun x => h0 (Or.inr ⟨z0, x⟩))))) (fun z0 => h1 hf (fun x => absurd x z0))
theorem cl_36 {p : Int32} (hk : k ≤ 2048) (hI : qt_iv T) (hiv : lj_iv k L T) (hD : rd_iv L (nu, st, un, ua)) (hb : rd_bd (nu, st, un, ua)) (hac : 0 < lj_ac L) (he : lj_ep L ≤ 512) (hn : n < 12) (hs : qt_so T n = 2) :
    oc k T L (nu, st, un, ua) (fun post u => match u with | (f_active, f_epoch, a_dataNodeDown, a_journalDown, a_masterDown, a_inTouch, a_promise, a_base, a_logLength, a_logEpoch, a_logKind, a_logA, a_logB, a_logC, a_inodeState, a_inodePlace, a_inodeClient, a_closeUnits, a_rowLength, a_rowBlock, a_blockStamp, a_replicaHeld, a_replicaStamp, a_unitCount, a_unitValue) => wX_close_36 post p (nI n) f_active f_epoch a_dataNodeDown a_journalDown a_masterDown a_inTouch a_promise a_base a_logLength a_logEpoch a_logKind a_logA a_logB a_logC a_inodeState a_inodePlace a_inodeClient a_closeUnits a_rowLength a_rowBlock a_blockStamp a_replicaHeld a_replicaStamp a_unitCount a_unitValue) (fun post v => match v with | (f_active, f_epoch, a_nodeUp, a_journalUp, a_masterUp, a_touch, a_log, a_many, a_promise, a_base, a_stamp, a_units, a_unit, a_sort, a_placeOf, a_client, a_rowLength, a_row, a_closedWith, a_stampOf) => wY_close_49 post p (nI n) f_active f_epoch a_nodeUp a_journalUp a_masterUp a_touch a_log a_many a_promise a_base a_stamp a_units a_unit a_sort a_placeOf a_client a_rowLength a_row a_closedWith a_stampOf) := by
  by_cases hr : qt_rl T n = 0
  · refine oc_c (cl_mid0 (n := n) (l := 0) (x3 := -1) hI hiv hD hb hac he hn hs (by decide) (Or.inl ⟨rfl, rfl⟩)) ?_ ?_
    · rintro post ⟨f_active, f_epoch, a_dataNodeDown, a_journalDown, a_masterDown, a_inTouch, a_promise, a_base, a_logLength, a_logEpoch, a_logKind, a_logA, a_logB, a_logC, a_inodeState, a_inodePlace, a_inodeClient, a_closeUnits, a_rowLength, a_rowBlock, a_blockStamp, a_replicaHeld, a_replicaStamp, a_unitCount, a_unitValue⟩ h1 h2 h3 hp
      unfold wX_close_36
      exact xm_lastBlock (u := (f_active, f_epoch, a_dataNodeDown, a_journalDown, a_masterDown, a_inTouch, a_promise, a_base, a_logLength, a_logEpoch, a_logKind, a_logA, a_logB, a_logC, a_inodeState, a_inodePlace, a_inodeClient, a_closeUnits, a_rowLength, a_rowBlock, a_blockStamp, a_replicaHeld, a_replicaStamp, a_unitCount, a_unitValue)) h1 hI hn (fun _ => br_t rfl (br_t rfl hp)) (fun z => by omega)
    · rintro post ⟨f_active, f_epoch, a_nodeUp, a_journalUp, a_masterUp, a_touch, a_log, a_many, a_promise, a_base, a_stamp, a_units, a_unit, a_sort, a_placeOf, a_client, a_rowLength, a_row, a_closedWith, a_stampOf⟩ h1 h2 h3 hp
      unfold wY_close_49
      exact ym_last (v := (f_active, f_epoch, a_nodeUp, a_journalUp, a_masterUp, a_touch, a_log, a_many, a_promise, a_base, a_stamp, a_units, a_unit, a_sort, a_placeOf, a_client, a_rowLength, a_row, a_closedWith, a_stampOf)) h1 hI hn (fun _ => br_t (by decide) hp) (fun z => by omega)
  · have hb16 := qt_iv5 hI n (qt_rl T n - 1) hn (by omega)
    have hin : qt_in (qt_rl T) (qt_ro T) (qt_ro T (3 * n + (qt_rl T n - 1))) := ⟨n, qt_rl T n - 1, hn, by omega, rfl⟩
    generalize hbb : qt_ro T (3 * n + (qt_rl T n - 1)) = b at hb16 hin
    have hw := rd_fwB (f := rd_g nu st b (qt_sp T b)) hb16 hb.2 (n := 5) (by omega)
    have ho := rd_moB (f := rd_g nu st b (qt_sp T b)) hb16 hb.2 (n := 5) (by omega)
    have X36 : ∀ (post : Int32 → SX → Prop) f_active f_epoch a_dataNodeDown a_journalDown a_masterDown a_inTouch a_promise a_base a_logLength a_logEpoch a_logKind a_logA a_logB a_logC a_inodeState a_inodePlace a_inodeClient a_closeUnits a_rowLength a_rowBlock a_blockStamp a_replicaHeld a_replicaStamp a_unitCount a_unitValue, sx_T T (f_active, f_epoch, a_dataNodeDown, a_journalDown, a_masterDown, a_inTouch, a_promise, a_base, a_logLength, a_logEpoch, a_logKind, a_logA, a_logB, a_logC, a_inodeState, a_inodePlace, a_inodeClient, a_closeUnits, a_rowLength, a_rowBlock, a_blockStamp, a_replicaHeld, a_replicaStamp, a_unitCount, a_unitValue) → sx_D (nu, st, un, ua) (f_active, f_epoch, a_dataNodeDown, a_journalDown, a_masterDown, a_inTouch, a_promise, a_base, a_logLength, a_logEpoch, a_logKind, a_logA, a_logB, a_logC, a_inodeState, a_inodePlace, a_inodeClient, a_closeUnits, a_rowLength, a_rowBlock, a_blockStamp, a_replicaHeld, a_replicaStamp, a_unitCount, a_unitValue) → ((p = -1 ∨ rd_hg nu st b (qt_sp T b)) → wX_close_65 post (nI n) (nI b) 1 f_active f_epoch a_dataNodeDown a_journalDown a_masterDown a_inTouch a_promise a_base a_logLength a_logEpoch a_logKind a_logA a_logB a_logC a_inodeState a_inodePlace a_inodeClient a_closeUnits a_rowLength a_rowBlock a_blockStamp a_replicaHeld a_replicaStamp a_unitCount a_unitValue) → (¬ (p = -1 ∨ rd_hg nu st b (qt_sp T b)) → wX_close_65 post (nI n) (nI b) 0 f_active f_epoch a_dataNodeDown a_journalDown a_masterDown a_inTouch a_promise a_base a_logLength a_logEpoch a_logKind a_logA a_logB a_logC a_inodeState a_inodePlace a_inodeClient a_closeUnits a_rowLength a_rowBlock a_blockStamp a_replicaHeld a_replicaStamp a_unitCount a_unitValue) → wX_close_36 post p (nI n) f_active f_epoch a_dataNodeDown a_journalDown a_masterDown a_inTouch a_promise a_base a_logLength a_logEpoch a_logKind a_logA a_logB a_logC a_inodeState a_inodePlace a_inodeClient a_closeUnits a_rowLength a_rowBlock a_blockStamp a_replicaHeld a_replicaStamp a_unitCount a_unitValue := by
      intro post f_active f_epoch a_dataNodeDown a_journalDown a_masterDown a_inTouch a_promise a_base a_logLength a_logEpoch a_logKind a_logA a_logB a_logC a_inodeState a_inodePlace a_inodeClient a_closeUnits a_rowLength a_rowBlock a_blockStamp a_replicaHeld a_replicaStamp a_unitCount a_unitValue h1 h3 a1 a0
      unfold wX_close_36
      refine xm_lastBlock (u := (f_active, f_epoch, a_dataNodeDown, a_journalDown, a_masterDown, a_inTouch, a_promise, a_base, a_logLength, a_logEpoch, a_logKind, a_logA, a_logB, a_logC, a_inodeState, a_inodePlace, a_inodeClient, a_closeUnits, a_rowLength, a_rowBlock, a_blockStamp, a_replicaHeld, a_replicaStamp, a_unitCount, a_unitValue)) h1 hI hn (fun z => absurd z hr) (fun z => ?_)
      rw [hbb]
      exact br_f (ix_m1 (by omega)) (cd_if Iff.rfl (fun y => a1 (Or.inl y)) (fun y => xm_hangs (u := (f_active, f_epoch, a_dataNodeDown, a_journalDown, a_masterDown, a_inTouch, a_promise, a_base, a_logLength, a_logEpoch, a_logKind, a_logA, a_logB, a_logC, a_inodeState, a_inodePlace, a_inodeClient, a_closeUnits, a_rowLength, a_rowBlock, a_blockStamp, a_replicaHeld, a_replicaStamp, a_unitCount, a_unitValue)) h1 hI h3 hb hb16 (fun x => br_f bo_1 (a1 (Or.inr x))) (fun x => br_t rfl (a0 (fun w => by rcases w with w | w; exact y w; exact x w)))))
    have Y49 : ∀ (post : Int32 → SY → Prop) f_active f_epoch a_nodeUp a_journalUp a_masterUp a_touch a_log a_many a_promise a_base a_stamp a_units a_unit a_sort a_placeOf a_client a_rowLength a_row a_closedWith a_stampOf, sy_T T (f_active, f_epoch, a_nodeUp, a_journalUp, a_masterUp, a_touch, a_log, a_many, a_promise, a_base, a_stamp, a_units, a_unit, a_sort, a_placeOf, a_client, a_rowLength, a_row, a_closedWith, a_stampOf) → sy_D (nu, st, un, ua) (f_active, f_epoch, a_nodeUp, a_journalUp, a_masterUp, a_touch, a_log, a_many, a_promise, a_base, a_stamp, a_units, a_unit, a_sort, a_placeOf, a_client, a_rowLength, a_row, a_closedWith, a_stampOf) → (rd_fw (rd_g nu st b (qt_sp T b)) un b 5 = 0 → post (-2) (f_active, f_epoch, a_nodeUp, a_journalUp, a_masterUp, a_touch, a_log, a_many, a_promise, a_base, a_stamp, a_units, a_unit, a_sort, a_placeOf, a_client, a_rowLength, a_row, a_closedWith, a_stampOf)) → (∀ l, rd_fw (rd_g nu st b (qt_sp T b)) un b 5 = l + 1 → (p = -1 ∨ rd_hg nu st b (qt_sp T b)) → wY_close_120 post (nI n) (nI b) (nI l) 1 f_active f_epoch a_nodeUp a_journalUp a_masterUp a_touch a_log a_many a_promise a_base a_stamp a_units a_unit a_sort a_placeOf a_client a_rowLength a_row a_closedWith a_stampOf) → (∀ l, rd_fw (rd_g nu st b (qt_sp T b)) un b 5 = l + 1 → ¬ (p = -1 ∨ rd_hg nu st b (qt_sp T b)) → wY_close_99 post (nI n) (nI b) (nI l) 0 f_active f_epoch a_nodeUp a_journalUp a_masterUp a_touch a_log a_many a_promise a_base a_stamp a_units a_unit a_sort a_placeOf a_client a_rowLength a_row a_closedWith a_stampOf) → wY_close_49 post p (nI n) f_active f_epoch a_nodeUp a_journalUp a_masterUp a_touch a_log a_many a_promise a_base a_stamp a_units a_unit a_sort a_placeOf a_client a_rowLength a_row a_closedWith a_stampOf := by
      intro post f_active f_epoch a_nodeUp a_journalUp a_masterUp a_touch a_log a_many a_promise a_base a_stamp a_units a_unit a_sort a_placeOf a_client a_rowLength a_row a_closedWith a_stampOf h1 h3 a0 a1 a2
      unfold wY_close_49
      refine ym_last (v := (f_active, f_epoch, a_nodeUp, a_journalUp, a_masterUp, a_touch, a_log, a_many, a_promise, a_base, a_stamp, a_units, a_unit, a_sort, a_placeOf, a_client, a_rowLength, a_row, a_closedWith, a_stampOf)) h1 hI hn (fun z => absurd z hr) (fun z => ?_)
      rw [hbb]
      refine br_f (nI_pos (by omega)) (ym_bound0 (v := (f_active, f_epoch, a_nodeUp, a_journalUp, a_masterUp, a_touch, a_log, a_many, a_promise, a_base, a_stamp, a_units, a_unit, a_sort, a_placeOf, a_client, a_rowLength, a_row, a_closedWith, a_stampOf)) h1 hI h3 hb hb16 hin (cd_if (qt_Nm (s := 0) (by omega) (by decide)) (fun y => ?_) (fun y => a0 (by omega))))
      obtain ⟨l, hl⟩ : ∃ l, rd_fw (rd_g nu st b (qt_sp T b)) un b 5 = l + 1 := ⟨rd_fw (rd_g nu st b (qt_sp T b)) un b 5 - 1, by omega⟩
      rw [hl, qt_ms]
      exact cd_if Iff.rfl (fun x => br_f bo_1 (a1 l hl (Or.inl x))) (fun x => ym_hangs (v := (f_active, f_epoch, a_nodeUp, a_journalUp, a_masterUp, a_touch, a_log, a_many, a_promise, a_base, a_stamp, a_units, a_unit, a_sort, a_placeOf, a_client, a_rowLength, a_row, a_closedWith, a_stampOf)) h1 hI h3 hb hb16 hin (fun w => br_f bo_1 (br_f bo_1 (a1 l hl (Or.inr w)))) (fun w => br_t rfl (a2 l hl (fun q => by rcases q with q | q; exact x q; exact w q))))
    by_cases hf0 : rd_fw (rd_g nu st b (qt_sp T b)) un b 5 = 0
    · refine oc_n (-2) hI hiv hD ?_ ?_
      · rintro post ⟨f_active, f_epoch, a_dataNodeDown, a_journalDown, a_masterDown, a_inTouch, a_promise, a_base, a_logLength, a_logEpoch, a_logKind, a_logA, a_logB, a_logC, a_inodeState, a_inodePlace, a_inodeClient, a_closeUnits, a_rowLength, a_rowBlock, a_blockStamp, a_replicaHeld, a_replicaStamp, a_unitCount, a_unitValue⟩ h1 h2 h3 hp
        have key : ∀ z, wX_close_65 post (nI n) (nI b) z f_active f_epoch a_dataNodeDown a_journalDown a_masterDown a_inTouch a_promise a_base a_logLength a_logEpoch a_logKind a_logA a_logB a_logC a_inodeState a_inodePlace a_inodeClient a_closeUnits a_rowLength a_rowBlock a_blockStamp a_replicaHeld a_replicaStamp a_unitCount a_unitValue := fun z => br_f (ix_m1 (by omega)) (xm_canBeClosed (u := (f_active, f_epoch, a_dataNodeDown, a_journalDown, a_masterDown, a_inTouch, a_promise, a_base, a_logLength, a_logEpoch, a_logKind, a_logA, a_logB, a_logC, a_inodeState, a_inodePlace, a_inodeClient, a_closeUnits, a_rowLength, a_rowBlock, a_blockStamp, a_replicaHeld, a_replicaStamp, a_unitCount, a_unitValue)) h1 hI h3 hb hb16 (fun y => by omega) (fun _ => br_t rfl hp))
        exact X36 post _ _ _ _ _ _ _ _ _ _ _ _ _ _ _ _ _ _ _ _ _ _ _ _ _ h1 h3 (fun _ => key 1) (fun _ => key 0)
      · rintro post ⟨f_active, f_epoch, a_nodeUp, a_journalUp, a_masterUp, a_touch, a_log, a_many, a_promise, a_base, a_stamp, a_units, a_unit, a_sort, a_placeOf, a_client, a_rowLength, a_row, a_closedWith, a_stampOf⟩ h1 h2 h3 hp
        exact Y49 post _ _ _ _ _ _ _ _ _ _ _ _ _ _ _ _ _ _ _ _ h1 h3 (fun _ => hp) (fun l hl => by omega) (fun l hl => by omega)
    · obtain ⟨l, hl⟩ : ∃ l, rd_fw (rd_g nu st b (qt_sp T b)) un b 5 = l + 1 := ⟨rd_fw (rd_g nu st b (qt_sp T b)) un b 5 - 1, by omega⟩
      by_cases hre : p = -1 ∨ rd_hg nu st b (qt_sp T b)
      · refine oc_c (cl_mid1 (n := n) (l := l) (b := b) hk hI hiv hD hb hac he hn hs (by omega) hb16 hin hl) ?_ ?_
        · rintro post ⟨f_active, f_epoch, a_dataNodeDown, a_journalDown, a_masterDown, a_inTouch, a_promise, a_base, a_logLength, a_logEpoch, a_logKind, a_logA, a_logB, a_logC, a_inodeState, a_inodePlace, a_inodeClient, a_closeUnits, a_rowLength, a_rowBlock, a_blockStamp, a_replicaHeld, a_replicaStamp, a_unitCount, a_unitValue⟩ h1 h2 h3 hp
          exact X36 post _ _ _ _ _ _ _ _ _ _ _ _ _ _ _ _ _ _ _ _ _ _ _ _ _ h1 h3 (fun _ => br_f (ix_m1 (by omega)) (xm_canBeClosed (u := (f_active, f_epoch, a_dataNodeDown, a_journalDown, a_masterDown, a_inTouch, a_promise, a_base, a_logLength, a_logEpoch, a_logKind, a_logA, a_logB, a_logC, a_inodeState, a_inodePlace, a_inodeClient, a_closeUnits, a_rowLength, a_rowBlock, a_blockStamp, a_replicaHeld, a_replicaStamp, a_unitCount, a_unitValue)) h1 hI h3 hb hb16 (fun _ _ => br_f bo_1 hp) (fun z => by rcases z with z | z; omega; exact absurd z.1 bo_1))) (fun z => absurd hre z)
        · rintro post ⟨f_active, f_epoch, a_nodeUp, a_journalUp, a_masterUp, a_touch, a_log, a_many, a_promise, a_base, a_stamp, a_units, a_unit, a_sort, a_placeOf, a_client, a_rowLength, a_row, a_closedWith, a_stampOf⟩ h1 h2 h3 hp
          refine Y49 post _ _ _ _ _ _ _ _ _ _ _ _ _ _ _ _ _ _ _ _ h1 h3 (fun z => absurd z hf0) (fun l' hl' _ => ?_) (fun _ _ z => absurd hre z)
          have e : l' = l := by omega
          subst e
          exact hp
      · by_cases heq : rd_fw (rd_g nu st b (qt_sp T b)) un b 5 = rd_mo (rd_g nu st b (qt_sp T b)) un b 5
        · refine oc_c (cl_mid0 (n := n) (l := l) (x3 := nI b) hI hiv hD hb hac he hn hs (by omega) (Or.inr ⟨b, hb16, rfl, hl⟩)) ?_ ?_
          · rintro post ⟨f_active, f_epoch, a_dataNodeDown, a_journalDown, a_masterDown, a_inTouch, a_promise, a_base, a_logLength, a_logEpoch, a_logKind, a_logA, a_logB, a_logC, a_inodeState, a_inodePlace, a_inodeClient, a_closeUnits, a_rowLength, a_rowBlock, a_blockStamp, a_replicaHeld, a_replicaStamp, a_unitCount, a_unitValue⟩ h1 h2 h3 hp
            exact X36 post _ _ _ _ _ _ _ _ _ _ _ _ _ _ _ _ _ _ _ _ _ _ _ _ _ h1 h3 (fun z => absurd z hre) (fun _ => br_f (ix_m1 (by omega)) (xm_canBeClosed (u := (f_active, f_epoch, a_dataNodeDown, a_journalDown, a_masterDown, a_inTouch, a_promise, a_base, a_logLength, a_logEpoch, a_logKind, a_logA, a_logB, a_logC, a_inodeState, a_inodePlace, a_inodeClient, a_closeUnits, a_rowLength, a_rowBlock, a_blockStamp, a_replicaHeld, a_replicaStamp, a_unitCount, a_unitValue)) h1 hI h3 hb hb16 (fun _ _ => br_f bo_1 hp) (fun z => by rcases z with z | z; omega; exact absurd heq z.2)))
          · rintro post ⟨f_active, f_epoch, a_nodeUp, a_journalUp, a_masterUp, a_touch, a_log, a_many, a_promise, a_base, a_stamp, a_units, a_unit, a_sort, a_placeOf, a_client, a_rowLength, a_row, a_closedWith, a_stampOf⟩ h1 h2 h3 hp
            refine Y49 post _ _ _ _ _ _ _ _ _ _ _ _ _ _ _ _ _ _ _ _ h1 h3 (fun z => absurd z hf0) (fun _ _ z => absurd z hre) (fun l' hl' _ => br_t rfl (ym_bound1 (v := (f_active, f_epoch, a_nodeUp, a_journalUp, a_masterUp, a_touch, a_log, a_many, a_promise, a_base, a_stamp, a_units, a_unit, a_sort, a_placeOf, a_client, a_rowLength, a_row, a_closedWith, a_stampOf)) h1 hI h3 hb hb16 hin ?_))
            have e : l' = l := by omega
            subst e
            rw [← heq, hl, qt_ms]
            exact br_t rfl hp
        · refine oc_n (-2) hI hiv hD ?_ ?_
          · rintro post ⟨f_active, f_epoch, a_dataNodeDown, a_journalDown, a_masterDown, a_inTouch, a_promise, a_base, a_logLength, a_logEpoch, a_logKind, a_logA, a_logB, a_logC, a_inodeState, a_inodePlace, a_inodeClient, a_closeUnits, a_rowLength, a_rowBlock, a_blockStamp, a_replicaHeld, a_replicaStamp, a_unitCount, a_unitValue⟩ h1 h2 h3 hp
            exact X36 post _ _ _ _ _ _ _ _ _ _ _ _ _ _ _ _ _ _ _ _ _ _ _ _ _ h1 h3 (fun z => absurd z hre) (fun _ => br_f (ix_m1 (by omega)) (xm_canBeClosed (u := (f_active, f_epoch, a_dataNodeDown, a_journalDown, a_masterDown, a_inTouch, a_promise, a_base, a_logLength, a_logEpoch, a_logKind, a_logA, a_logB, a_logC, a_inodeState, a_inodePlace, a_inodeClient, a_closeUnits, a_rowLength, a_rowBlock, a_blockStamp, a_replicaHeld, a_replicaStamp, a_unitCount, a_unitValue)) h1 hI h3 hb hb16 (fun _ z => absurd (z rfl) heq) (fun _ => br_t rfl hp)))
          · rintro post ⟨f_active, f_epoch, a_nodeUp, a_journalUp, a_masterUp, a_touch, a_log, a_many, a_promise, a_base, a_stamp, a_units, a_unit, a_sort, a_placeOf, a_client, a_rowLength, a_row, a_closedWith, a_stampOf⟩ h1 h2 h3 hp
            refine Y49 post _ _ _ _ _ _ _ _ _ _ _ _ _ _ _ _ _ _ _ _ h1 h3 (fun z => absurd z hf0) (fun _ _ z => absurd z hre) (fun l' hl' _ => br_t rfl (ym_bound1 (v := (f_active, f_epoch, a_nodeUp, a_journalUp, a_masterUp, a_touch, a_log, a_many, a_promise, a_base, a_stamp, a_units, a_unit, a_sort, a_placeOf, a_client, a_rowLength, a_row, a_closedWith, a_stampOf)) h1 hI h3 hb hb16 hin ?_))
            refine br_f (fun z => heq ?_) hp
            rw [qt_mEn (by omega) (by omega)] at z
            omega
end
theorem i_vc_close {k : Nat} {u : SX} {v : SY} (I : i_Rel k u v) (hk : k + 4 ≤ 2048) (v1 : Int32) (v2 : Int32) : wpX_close (fun r u' => wpY_close (fun r' v' => r' = r ∧ i_Rel (k + 4) u' v') v v1 v2) u v1 v2 := by
  have I' := i_up I
  obtain ⟨T, L, ⟨nu, st, un, ua⟩, h1, h2, h3, h4, h5, h6, h7, h8⟩ := I
  have h7' := lj_ivK (show k ≤ k + 4 by omega) h7
  have hb := rl_bd h7' (by omega) h8
  have he := rl_ep h7' (by omega)
  obtain ⟨n, hn⟩ := ix_e v2 (N := 12) (by decide)
  have hac2 : lj_ac L ≤ 2 := by obtain ⟨mu, ju, ac, ep, to, pr, ba, le, lg⟩ := L; exact h7.2.1
  have R0 : ∀ v', sy_L L v' → sy_D (nu, st, un, ua) v' → i_Rel (k + 4) u v' := fun v' g1 g2 => ⟨T, _, _, h1, h2, h3, g1, g2, h6, h7', h8⟩
  obtain ⟨f_active, f_epoch, a_dataNodeDown, a_journalDown, a_masterDown, a_inTouch, a_promise, a_base, a_logLength, a_logEpoch, a_logKind, a_logA, a_logB, a_logC, a_inodeState, a_inodePlace, a_inodeClient, a_closeUnits, a_rowLength, a_rowBlock, a_blockStamp, a_replicaHeld, a_replicaStamp, a_unitCount, a_unitValue⟩ := u
  obtain ⟨g_active, g_epoch, a_nodeUp, a_journalUp, a_masterUp, a_touch, a_log, a_many, b_promise, b_base, a_stamp, a_units, a_unit, a_sort, a_placeOf, a_client, b_rowLength, a_row, a_closedWith, a_stampOf⟩ := v
  have eX : f_active = qt_m (lj_ac L) := by obtain ⟨mu, ju, ac, ep, to, pr, ba, le, lg⟩ := L; exact h2.1
  have eY : g_active = qt_m (lj_ac L) := by obtain ⟨mu, ju, ac, ep, to, pr, ba, le, lg⟩ := L; exact h4.1
  by_cases ha : lj_ac L = 0
  · exact br_t ((xm_act eX hac2).mpr ha) (br_f (fun z => by have := (ym_act eY hac2).mp z; omega) ⟨rfl, I'⟩)
  have hac : 0 < lj_ac L := by omega
  by_cases hA : n < 12 ∧ qt_so T n = 2 ∧ (v1 = -1 ∨ v1 = qt_m (qt_cl T n))
  · obtain ⟨hlt, hs, hcl⟩ := hA
    have e := ix_i hn hlt
    subst e
    obtain ⟨r, T', L', D', a1, a2, a3, a4, a5⟩ := cl_36 (p := v1) (n := n) (by omega) h6 h7' h8 hb hac he hlt hs
    have hv := vp_in_nI hlt (by decide : 12 < 2 ^ 31)
    have hc : (nI n).toNatClampNeg = n := nI_clamp (by omega)
    have Y : ∀ u', sx_T T' u' → sx_L L' u' → sx_D D' u' → wpY_close (fun r' v' => r' = r ∧ i_Rel (k + 4) u' v') (g_active, g_epoch, a_nodeUp, a_journalUp, a_masterUp, a_touch, a_log, a_many, b_promise, b_base, a_stamp, a_units, a_unit, a_sort, a_placeOf, a_client, b_rowLength, a_row, a_closedWith, a_stampOf) v1 (nI n) := by
      intro u' b1 b2 b3
      refine br_t ((ym_act eY hac2).mpr hac) (ym_tellL h7' h4 h5 ?_)
      rintro ⟨f_active, f_epoch, a_nodeUp, a_journalUp, a_masterUp, a_touch, a_log, a_many, a_promise, a_base, a_stamp, a_units, a_unit, a_sort, a_placeOf, a_client, a_rowLength, a_row, a_closedWith, a_stampOf⟩ gT gL gD
      have gT := gT hac
      have K := a5 (fun r' v' => r' = r ∧ i_Rel (k + 4) u' v') (f_active, f_epoch, a_nodeUp, a_journalUp, a_masterUp, a_touch, a_log, a_many, a_promise, a_base, a_stamp, a_units, a_unit, a_sort, a_placeOf, a_client, a_rowLength, a_row, a_closedWith, a_stampOf) gT gL gD (fun v' m1 m2 => ⟨rfl, T', L', D', b1, b2, b3, m1, m2, a1, a2, a3⟩)
      refine ym_isFile (v := (f_active, f_epoch, a_nodeUp, a_journalUp, a_masterUp, a_touch, a_log, a_many, a_promise, a_base, a_stamp, a_units, a_unit, a_sort, a_placeOf, a_client, a_rowLength, a_row, a_closedWith, a_stampOf)) gT h6 hn (fun _ _ => br_f bo_1 ⟨hv, br_t ((cd_e (c := 2) (qt_ag1 gT n hlt) (by omega) (by omega) (by decide)).mpr hs) (cd_if Iff.rfl (fun z => K) (fun z => ⟨hv, br_t ?_ K⟩))⟩) (fun z => absurd (z hlt) (by omega))
      rw [hc, qt_ag3 gT n hlt hs]
      rcases hcl with w | w
      · exact absurd w z
      · exact w.symm
    have K := a4 (fun r u' => wpY_close (fun r' v' => r' = r ∧ i_Rel (k + 4) u' v') (g_active, g_epoch, a_nodeUp, a_journalUp, a_masterUp, a_touch, a_log, a_many, b_promise, b_base, a_stamp, a_units, a_unit, a_sort, a_placeOf, a_client, b_rowLength, a_row, a_closedWith, a_stampOf) v1 (nI n)) (f_active, f_epoch, a_dataNodeDown, a_journalDown, a_masterDown, a_inTouch, a_promise, a_base, a_logLength, a_logEpoch, a_logKind, a_logA, a_logB, a_logC, a_inodeState, a_inodePlace, a_inodeClient, a_closeUnits, a_rowLength, a_rowBlock, a_blockStamp, a_replicaHeld, a_replicaStamp, a_unitCount, a_unitValue) h1 h2 h3 Y
    refine br_f (fun z => ha ((xm_act eX hac2).mp z)) (xm_isOpen (u := (f_active, f_epoch, a_dataNodeDown, a_journalDown, a_masterDown, a_inTouch, a_promise, a_base, a_logLength, a_logEpoch, a_logKind, a_logA, a_logB, a_logC, a_inodeState, a_inodePlace, a_inodeClient, a_closeUnits, a_rowLength, a_rowBlock, a_blockStamp, a_replicaHeld, a_replicaStamp, a_unitCount, a_unitValue)) h1 h6 hn (fun _ _ => br_f bo_1 (cd_if Iff.rfl (fun z => K) (fun z => ⟨hv, br_t ?_ K⟩))) (fun z => absurd hs (z hlt)))
    rw [hc, qt_ag3 h1 n hlt hs]
    rcases hcl with w | w
    · exact absurd w z
    · exact w.symm
  · have Y : wpY_close (fun r' v' => r' = -2 ∧ i_Rel (k + 4) (f_active, f_epoch, a_dataNodeDown, a_journalDown, a_masterDown, a_inTouch, a_promise, a_base, a_logLength, a_logEpoch, a_logKind, a_logA, a_logB, a_logC, a_inodeState, a_inodePlace, a_inodeClient, a_closeUnits, a_rowLength, a_rowBlock, a_blockStamp, a_replicaHeld, a_replicaStamp, a_unitCount, a_unitValue) v') (g_active, g_epoch, a_nodeUp, a_journalUp, a_masterUp, a_touch, a_log, a_many, b_promise, b_base, a_stamp, a_units, a_unit, a_sort, a_placeOf, a_client, b_rowLength, a_row, a_closedWith, a_stampOf) v1 v2 := by
      refine br_t ((ym_act eY hac2).mpr hac) (ym_tellL h7' h4 h5 ?_)
      generalize hQ : (fun (r' : Int32) v' => r' = -2 ∧ i_Rel (k + 4) (f_active, f_epoch, a_dataNodeDown, a_journalDown, a_masterDown, a_inTouch, a_promise, a_base, a_logLength, a_logEpoch, a_logKind, a_logA, a_logB, a_logC, a_inodeState, a_inodePlace, a_inodeClient, a_closeUnits, a_rowLength, a_rowBlock, a_blockStamp, a_replicaHeld, a_replicaStamp, a_unitCount, a_unitValue) v') = post
      have hpost : ∀ v', sy_L L v' → sy_D (nu, st, un, ua) v' → post (-2) v' := by
        intro v' m1 m2
        rw [← hQ]
        exact ⟨rfl, R0 v' m1 m2⟩
      rintro ⟨f_active, f_epoch, a_nodeUp, a_journalUp, a_masterUp, a_touch, a_log, a_many, a_promise, a_base, a_stamp, a_units, a_unit, a_sort, a_placeOf, a_client, a_rowLength, a_row, a_closedWith, a_stampOf⟩ gT gL gD
      have gT := gT hac
      refine ym_isFile (v := (f_active, f_epoch, a_nodeUp, a_journalUp, a_masterUp, a_touch, a_log, a_many, a_promise, a_base, a_stamp, a_units, a_unit, a_sort, a_placeOf, a_client, a_rowLength, a_row, a_closedWith, a_stampOf)) gT h6 hn (fun hlt h2s => br_f bo_1 ?_) (fun z => br_t rfl (hpost _ gL gD))
      have e := ix_i hn hlt
      subst e
      have hv := vp_in_nI hlt (by decide : 12 < 2 ^ 31)
      have hc : (nI n).toNatClampNeg = n := nI_clamp (by omega)
      have hs3 := qt_iv3 h6 n hlt
      refine ⟨hv, cd_if (cd_e (c := 2) (qt_ag1 gT n hlt) (by omega) (by omega) (by decide)) (fun hs => br_f (fun z => hA ⟨hlt, hs, Or.inl z⟩) ⟨hv, br_f (fun z => hA ⟨hlt, hs, Or.inr ?_⟩) (hpost _ gL gD)⟩) (fun hs => hpost _ gL gD)⟩
      rw [hc, qt_ag3 gT n hlt hs] at z
      exact z.symm
    refine br_f (fun z => ha ((xm_act eX hac2).mp z)) (xm_isOpen (u := (f_active, f_epoch, a_dataNodeDown, a_journalDown, a_masterDown, a_inTouch, a_promise, a_base, a_logLength, a_logEpoch, a_logKind, a_logA, a_logB, a_logC, a_inodeState, a_inodePlace, a_inodeClient, a_closeUnits, a_rowLength, a_rowBlock, a_blockStamp, a_replicaHeld, a_replicaStamp, a_unitCount, a_unitValue)) h1 h6 hn (fun hlt hs => br_f bo_1 (br_f (fun z => hA ⟨hlt, hs, Or.inl z⟩) ?_)) (fun z => br_t rfl Y))
    have e := ix_i hn hlt
    subst e
    refine ⟨vp_in_nI hlt (by decide), br_f (fun z => hA ⟨hlt, hs, Or.inr ?_⟩) Y⟩
    rw [nI_clamp (by omega), qt_ag3 h1 n hlt hs] at z
    exact z.symm
