/-! takeover: reading -/
section
variable {T : qt_T} {mu ju : Nat → Bool} {ac ep : Nat} {to : Nat → Bool} {pr ba le : Nat → Nat} {lg : Nat → Nat → qt_R} {nu : Nat → Bool} {st un : Nat → Nat} {ua : Nat → Int32}
theorem xm_countUp {u : SX} (hL : sx_L (mu, ju, ac, ep, to, pr, ba, le, lg) u) {post : Int32 → Prop} (hp : post (nI (rd_cn ju 3))) : wpX_countUpJournals post u := by
  obtain ⟨f_active, f_epoch, a_dataNodeDown, a_journalDown, a_masterDown, a_inTouch, a_promise, a_base, a_logLength, a_logEpoch, a_logKind, a_logA, a_logB, a_logC, a_inodeState, a_inodePlace, a_inodeClient, a_closeUnits, a_rowLength, a_rowBlock, a_blockStamp, a_replicaHeld, a_replicaStamp, a_unitCount, a_unitValue⟩ := u
  refine ⟨4, lq_f (fun n d s => wX_countUpJournals_4 post f_active f_epoch a_dataNodeDown a_journalDown a_masterDown a_inTouch a_promise a_base a_logLength a_logEpoch a_logKind a_logA a_logB a_logC a_inodeState a_inodePlace a_inodeClient a_closeUnits a_rowLength a_rowBlock a_blockStamp a_replicaHeld a_replicaStamp a_unitCount a_unitValue n s (nI d)) 3 (fun d => nI (rd_cn ju d)) (fun n => br_t lb_t hp) (fun n d hd H => ?_) 4 0 (by omega) (by omega)⟩
  refine br_f (lb_f hd) ⟨vp_in_nI hd (by decide), cd_if (cd_n (hL.2.2.1 d hd) (by omega)) (fun z => nm_r (rd_cnT z) (nm_r (nI_1 d) H)) (fun z => nm_r (nI_1 d) ?_)⟩
  rw [← rd_cnF (show ju d = false by simpa using z)]; exact H
theorem xm_greatest {u : SX} (hL : sx_L (mu, ju, ac, ep, to, pr, ba, le, lg) u) (hpr : ∀ j, j < 3 → pr j ≤ 512) {post : Int32 → Prop} (hp : post (nI (lj_gp ju pr 3))) : wpX_greatestPromise post u := by
  obtain ⟨f_active, f_epoch, a_dataNodeDown, a_journalDown, a_masterDown, a_inTouch, a_promise, a_base, a_logLength, a_logEpoch, a_logKind, a_logA, a_logB, a_logC, a_inodeState, a_inodePlace, a_inodeClient, a_closeUnits, a_rowLength, a_rowBlock, a_blockStamp, a_replicaHeld, a_replicaStamp, a_unitCount, a_unitValue⟩ := u
  refine ⟨4, lq_f (fun n d s => wX_greatestPromise_4 post f_active f_epoch a_dataNodeDown a_journalDown a_masterDown a_inTouch a_promise a_base a_logLength a_logEpoch a_logKind a_logA a_logB a_logC a_inodeState a_inodePlace a_inodeClient a_closeUnits a_rowLength a_rowBlock a_blockStamp a_replicaHeld a_replicaStamp a_unitCount a_unitValue n s (nI d)) 3 (fun d => nI (lj_gp ju pr d)) (fun n => br_t lb_t hp) (fun n d hd H => ?_) 4 0 (by omega) (by omega)⟩
  have hg := lj_gpB (ju := ju) hpr (n := d) (by omega)
  have hp1 := hpr d hd
  have ep1 : a_promise (nI d).toNatClampNeg = nI (pr d) := by rw [nI_clamp (by omega)]; exact hL.2.2.2.2.2.1 d hd
  have H' : wX_greatestPromise_4 post f_active f_epoch a_dataNodeDown a_journalDown a_masterDown a_inTouch a_promise a_base a_logLength a_logEpoch a_logKind a_logA a_logB a_logC a_inodeState a_inodePlace a_inodeClient a_closeUnits a_rowLength a_rowBlock a_blockStamp a_replicaHeld a_replicaStamp a_unitCount a_unitValue n (nI (lj_gp ju pr (d + 1))) (nI (d + 1)) := H
  rw [lj_gpS] at H'
  refine br_f (lb_f hd) ⟨vp_in_nI hd (by decide), cd_if (cd_n (hL.2.2.1 d hd) (by omega)) (fun z => ⟨vp_in_nI hd (by decide), ?_⟩) (fun z => nm_r (nI_1 d) ?_)⟩
  · rw [ep1]
    refine cd_if (nI_leI (by omega) (by omega)) (fun y => nm_r (nI_1 d) ?_) (fun y => ⟨vp_in_nI hd (by decide), nm_e (nm_r (nI_1 d) ?_)⟩)
    · rw [if_neg (fun w => by omega)] at H'; exact H'
    · rw [if_pos ⟨z, by omega⟩] at H'; exact H'
  · rw [if_neg (fun w => z w.1)] at H'; exact H'
theorem xm_lastEpoch {u : SX} (hL : sx_L (mu, ju, ac, ep, to, pr, ba, le, lg) u) {post : Int32 → Prop} {j : Nat} (hj : j < 3) (hl : le j ≤ 1000) (hp : post (nI (lj_le le lg j))) : wpX_lastEpoch post u (nI j) := by
  obtain ⟨f_active, f_epoch, a_dataNodeDown, a_journalDown, a_masterDown, a_inTouch, a_promise, a_base, a_logLength, a_logEpoch, a_logKind, a_logA, a_logB, a_logC, a_inodeState, a_inodePlace, a_inodeClient, a_closeUnits, a_rowLength, a_rowBlock, a_blockStamp, a_replicaHeld, a_replicaStamp, a_unitCount, a_unitValue⟩ := u
  have hc : (nI j).toNatClampNeg = j := nI_clamp (by omega)
  have el : a_logLength j = nI (le j) := hL.2.2.2.2.2.2.2.1 j hj
  unfold lj_le at hp
  refine ⟨vp_in_nI hj (by decide), ?_⟩
  rw [hc, el]
  refine cd_if (nI_eq (b := 0) (by omega) (by decide)) (fun z => ?_) (fun z => ⟨vp_in_nI hj (by decide), ?_⟩)
  · rw [if_pos z] at hp; exact hp
  · rw [if_neg z] at hp
    have e : nI j * 1000 + nI (le j) - 1 = nI (1000 * j + (le j - 1)) := by
      rw [show (1000 : Int32) = nI 1000 from rfl, mu_r, show 1000 * j + le j = (1000 * j + (le j - 1)) + 1 by omega, nI_pred]
    rw [e]
    refine ⟨vp_in_nI (by omega) (by decide), ?_⟩
    rw [nI_clamp (by omega), (hL.2.2.2.2.2.2.2.2 j (le j - 1) hj (by omega)).1]
    exact hp
theorem xm_isBetter {u : SX} (hL : sx_L (mu, ju, ac, ep, to, pr, ba, le, lg) u) (hw : ∀ j, j < 3 → qt_wf (lg j) (le j) ∧ le j ≤ 1000) {post : Int32 → Prop} {j i : Nat} (hj : j < 3) (hi : i < 3) (h1 : lj_B le lg j i = true → post 1) (h0 : lj_B le lg j i = false → post 0) : wpX_isBetterLog post u (nI j) (nI i) := by
  obtain ⟨f_active, f_epoch, a_dataNodeDown, a_journalDown, a_masterDown, a_inTouch, a_promise, a_base, a_logLength, a_logEpoch, a_logKind, a_logA, a_logB, a_logC, a_inodeState, a_inodePlace, a_inodeClient, a_closeUnits, a_rowLength, a_rowBlock, a_blockStamp, a_replicaHeld, a_replicaStamp, a_unitCount, a_unitValue⟩ := u
  unfold wpX_isBetterLog
  have w1 := lj_leL (hw j hj).1
  have w2 := lj_leL (hw i hi).1
  have n1 := (hw j hj).2
  have n2 := (hw i hi).2
  have ej : a_logLength (nI j).toNatClampNeg = nI (le j) := by rw [nI_clamp (by omega)]; exact hL.2.2.2.2.2.2.2.1 j hj
  have ei : a_logLength (nI i).toNatClampNeg = nI (le i) := by rw [nI_clamp (by omega)]; exact hL.2.2.2.2.2.2.2.1 i hi
  unfold lj_B at h1 h0
  refine xm_lastEpoch (u := (f_active, f_epoch, a_dataNodeDown, a_journalDown, a_masterDown, a_inTouch, a_promise, a_base, a_logLength, a_logEpoch, a_logKind, a_logA, a_logB, a_logC, a_inodeState, a_inodePlace, a_inodeClient, a_closeUnits, a_rowLength, a_rowBlock, a_blockStamp, a_replicaHeld, a_replicaStamp, a_unitCount, a_unitValue)) hL hj n1 (xm_lastEpoch (u := (f_active, f_epoch, a_dataNodeDown, a_journalDown, a_masterDown, a_inTouch, a_promise, a_base, a_logLength, a_logEpoch, a_logKind, a_logA, a_logB, a_logC, a_inodeState, a_inodePlace, a_inodeClient, a_closeUnits, a_rowLength, a_rowBlock, a_blockStamp, a_replicaHeld, a_replicaStamp, a_unitCount, a_unitValue)) hL hi n2 (cd_if (nI_ltI (by omega) (by omega)) (fun z => h1 (decide_eq_true (Or.inl z))) (fun z => cd_if (nI_eq (by omega) (by omega)) (fun y => ⟨vp_in_nI hj (by decide), vp_in_nI hi (by decide), ?_⟩) (fun y => h0 (decide_eq_false (fun x => by rcases x with x | x; exact z x; exact y x.1))))))
  rw [ej, ei]
  exact cd_if (nI_leI (by omega) (by omega)) (fun x => h0 (decide_eq_false (fun w => by rcases w with w | w; exact z w; omega))) (fun x => h1 (decide_eq_true (Or.inr ⟨y, by omega⟩)))
theorem xm_best {u : SX} (hL : sx_L (mu, ju, ac, ep, to, pr, ba, le, lg) u) (hw : ∀ j, j < 3 → qt_wf (lg j) (le j) ∧ le j ≤ 1000) {post : Int32 → Prop} (hp : post (qt_m (lj_bt (lj_B le lg) ju 3))) : wpX_journalWithBestLog post u := by
  obtain ⟨f_active, f_epoch, a_dataNodeDown, a_journalDown, a_masterDown, a_inTouch, a_promise, a_base, a_logLength, a_logEpoch, a_logKind, a_logA, a_logB, a_logC, a_inodeState, a_inodePlace, a_inodeClient, a_closeUnits, a_rowLength, a_rowBlock, a_blockStamp, a_replicaHeld, a_replicaStamp, a_unitCount, a_unitValue⟩ := u
  refine ⟨4, lq_f (fun n d s => wX_journalWithBestLog_4 post f_active f_epoch a_dataNodeDown a_journalDown a_masterDown a_inTouch a_promise a_base a_logLength a_logEpoch a_logKind a_logA a_logB a_logC a_inodeState a_inodePlace a_inodeClient a_closeUnits a_rowLength a_rowBlock a_blockStamp a_replicaHeld a_replicaStamp a_unitCount a_unitValue n s (nI d)) 3 (fun d => qt_m (lj_bt (lj_B le lg) ju d)) (fun n => br_t lb_t hp) (fun n d hd H => ?_) 4 0 (by omega) (by omega)⟩
  have hbl : lj_bt (lj_B le lg) ju d ≤ d := by rcases lj_btP (B := lj_B le lg) (ju := ju) (n := d) with y | y <;> omega
  have H' : wX_journalWithBestLog_4 post f_active f_epoch a_dataNodeDown a_journalDown a_masterDown a_inTouch a_promise a_base a_logLength a_logEpoch a_logKind a_logA a_logB a_logC a_inodeState a_inodePlace a_inodeClient a_closeUnits a_rowLength a_rowBlock a_blockStamp a_replicaHeld a_replicaStamp a_unitCount a_unitValue n (qt_m (lj_bt (lj_B le lg) ju (d + 1))) (nI (d + 1)) := H
  rw [lj_btS] at H'
  refine br_f (lb_f hd) ⟨vp_in_nI hd (by decide), cd_if (cd_n (hL.2.2.1 d hd) (by omega)) (fun z => cd_if (qt_m0E (by omega)) (fun y => nm_r (nI_1 d) ?_) (fun y => ?_)) (fun z => nm_r (nI_1 d) ?_)⟩
  · rw [if_pos ⟨z, Or.inl y⟩, qt_ms] at H'; exact H'
  · obtain ⟨i, hi⟩ : ∃ i, lj_bt (lj_B le lg) ju d = i + 1 := ⟨lj_bt (lj_B le lg) ju d - 1, by omega⟩
    rw [hi] at H' hbl
    show wpX_isBetterLog _ (f_active, f_epoch, a_dataNodeDown, a_journalDown, a_masterDown, a_inTouch, a_promise, a_base, a_logLength, a_logEpoch, a_logKind, a_logA, a_logB, a_logC, a_inodeState, a_inodePlace, a_inodeClient, a_closeUnits, a_rowLength, a_rowBlock, a_blockStamp, a_replicaHeld, a_replicaStamp, a_unitCount, a_unitValue) (nI d) (qt_m (lj_bt (lj_B le lg) ju d))
    rw [hi, qt_ms]
    refine xm_isBetter (u := (f_active, f_epoch, a_dataNodeDown, a_journalDown, a_masterDown, a_inTouch, a_promise, a_base, a_logLength, a_logEpoch, a_logKind, a_logA, a_logB, a_logC, a_inodeState, a_inodePlace, a_inodeClient, a_closeUnits, a_rowLength, a_rowBlock, a_blockStamp, a_replicaHeld, a_replicaStamp, a_unitCount, a_unitValue)) hL hw hd (by omega) (fun x => br_f bo_1 (nm_r (nI_1 d) ?_)) (fun x => br_t rfl (nm_r (nI_1 d) ?_))
    · rw [if_pos ⟨z, Or.inr x⟩, qt_ms] at H'; exact H'
    · rw [if_neg (fun w => by rcases w.2 with q | q; omega; exact absurd (x.symm.trans q) (by decide)), qt_ms] at H'; exact H'
  · rw [if_neg (fun w => z w.1)] at H'; exact H'
theorem ym_lastEpoch {v : SY} (hL : sy_L (mu, ju, ac, ep, to, pr, ba, le, lg) v) {post : Int32 → Prop} {j : Nat} (hj : j < 3) (hw : qt_wf (lg j) (le j)) (hl : le j ≤ 1000) (hp : post (nI (lj_le le lg j))) : wpY_lastEpoch post v (nI j) := by
  obtain ⟨f_active, f_epoch, a_nodeUp, a_journalUp, a_masterUp, a_touch, a_log, a_many, a_promise, a_base, a_stamp, a_units, a_unit, a_sort, a_placeOf, a_client, a_rowLength, a_row, a_closedWith, a_stampOf⟩ := v
  have hc : (nI j).toNatClampNeg = j := nI_clamp (by omega)
  have el : a_many j = nI (le j) := hL.2.2.2.2.2.2.2.1 j hj
  unfold lj_le at hp
  refine ⟨vp_in_nI hj (by decide), ?_⟩
  rw [hc, el]
  refine cd_if (nI_eq (b := 0) (by omega) (by decide)) (fun z => ?_) (fun z => ⟨vp_in_nI hj (by decide), ?_⟩)
  · rw [if_pos z] at hp; exact hp
  · rw [if_neg z] at hp
    have e : 1001 * nI j + nI (le j) - 1 = nI (1001 * j + (le j - 1)) := by
      rw [show (1001 : Int32) = nI 1001 from rfl, mu_l, show 1001 * j + le j = (1001 * j + (le j - 1)) + 1 by omega, nI_pred]
    rw [e]
    refine ⟨vp_in_nI (by omega) (by decide), ?_⟩
    rw [nI_clamp (by omega), hL.2.2.2.2.2.2.2.2 j (le j - 1) hj (by omega), qt_pkE (qt_okB (hw (le j - 1) (by omega)))]
    exact hp
theorem ym_better {v : SY} (hL : sy_L (mu, ju, ac, ep, to, pr, ba, le, lg) v) (hw : ∀ j, j < 3 → qt_wf (lg j) (le j) ∧ le j ≤ 1000) {post : Int32 → Prop} {j i : Nat} (hj : j < 3) (hi : i < 3) (h1 : lj_B le lg j i = true → post 1) (h0 : lj_B le lg j i = false → post 0) : wpY_better post v (nI j) (nI i) := by
  obtain ⟨f_active, f_epoch, a_nodeUp, a_journalUp, a_masterUp, a_touch, a_log, a_many, a_promise, a_base, a_stamp, a_units, a_unit, a_sort, a_placeOf, a_client, a_rowLength, a_row, a_closedWith, a_stampOf⟩ := v
  unfold wpY_better
  have w1 := lj_leL (hw j hj).1
  have w2 := lj_leL (hw i hi).1
  have n1 := (hw j hj).2
  have n2 := (hw i hi).2
  have ej : a_many (nI j).toNatClampNeg = nI (le j) := by rw [nI_clamp (by omega)]; exact hL.2.2.2.2.2.2.2.1 j hj
  have ei : a_many (nI i).toNatClampNeg = nI (le i) := by rw [nI_clamp (by omega)]; exact hL.2.2.2.2.2.2.2.1 i hi
  unfold lj_B at h1 h0
  refine ym_lastEpoch (v := (f_active, f_epoch, a_nodeUp, a_journalUp, a_masterUp, a_touch, a_log, a_many, a_promise, a_base, a_stamp, a_units, a_unit, a_sort, a_placeOf, a_client, a_rowLength, a_row, a_closedWith, a_stampOf)) hL hj (hw j hj).1 n1 (ym_lastEpoch (v := (f_active, f_epoch, a_nodeUp, a_journalUp, a_masterUp, a_touch, a_log, a_many, a_promise, a_base, a_stamp, a_units, a_unit, a_sort, a_placeOf, a_client, a_rowLength, a_row, a_closedWith, a_stampOf)) hL hi (hw i hi).1 n2 (cd_if (nI_ltI (by omega) (by omega)) (fun z => h1 (decide_eq_true (Or.inl z))) (fun z => cd_if (nI_eq (by omega) (by omega)) (fun y => ⟨vp_in_nI hj (by decide), vp_in_nI hi (by decide), ?_⟩) (fun y => h0 (decide_eq_false (fun x => by rcases x with x | x; exact z x; exact y x.1))))))
  rw [ej, ei]
  exact cd_if (nI_leI (by omega) (by omega)) (fun x => h0 (decide_eq_false (fun w => by rcases w with w | w; exact z w; omega))) (fun x => h1 (decide_eq_true (Or.inr ⟨y, by omega⟩)))
end
