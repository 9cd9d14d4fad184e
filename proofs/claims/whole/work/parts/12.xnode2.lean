/-! reading the replicas: the component, units and loads -/
theorem cd_m1q {v : Nat} (hv : v < 2 ^ 31) : qt_m v = -1 ↔ v = 0 := qt_m0E hv
theorem qt_mleN {a s : Nat} (ha : a < 2 ^ 31) (hs : s < 2 ^ 31) : qt_m a ≤ nI s ↔ a ≤ s + 1 := by
  rw [Int32.le_iff_toInt_le, qt_mT ha, nI_toInt hs]; omega
theorem xm_fewestUnits {T : qt_T} {nu : Nat → Bool} {st un : Nat → Nat} {ua : Nat → Int32} {u : SX} (h : sx_T T u) (hI : qt_iv T) (hD : sx_D (nu, st, un, ua) u) (hb : rd_bd (nu, st, un, ua)) {post : Int32 → Prop} {b : Nat} (hb16 : b < 16) (hp : post (qt_m (rd_fw (rd_g nu st b (qt_sp T b)) un b 5))) : wpX_fewestUnits post u (nI b) := by
  obtain ⟨f_active, f_epoch, a_dataNodeDown, a_journalDown, a_masterDown, a_inTouch, a_promise, a_base, a_logLength, a_logEpoch, a_logKind, a_logA, a_logB, a_logC, a_inodeState, a_inodePlace, a_inodeClient, a_closeUnits, a_rowLength, a_rowBlock, a_blockStamp, a_replicaHeld, a_replicaStamp, a_unitCount, a_unitValue⟩ := u
  unfold wpX_fewestUnits
  refine xm_goodNodes (u := (f_active, f_epoch, a_dataNodeDown, a_journalDown, a_masterDown, a_inTouch, a_promise, a_base, a_logLength, a_logEpoch, a_logKind, a_logA, a_logB, a_logC, a_inodeState, a_inodePlace, a_inodeClient, a_closeUnits, a_rowLength, a_rowBlock, a_blockStamp, a_replicaHeld, a_replicaStamp, a_unitCount, a_unitValue)) h hI hD hb hb16 ?_
  generalize rd_g nu st b (qt_sp T b) = f at hp ⊢
  refine ⟨6, lq_f (fun n d s => wX_fewestUnits_11 post (nI b) (nI (rd_mk f 5)) f_active f_epoch a_dataNodeDown a_journalDown a_masterDown a_inTouch a_promise a_base a_logLength a_logEpoch a_logKind a_logA a_logB a_logC a_inodeState a_inodePlace a_inodeClient a_closeUnits a_rowLength a_rowBlock a_blockStamp a_replicaHeld a_replicaStamp a_unitCount a_unitValue n s (nI d)) 5 (fun d => qt_m (rd_fw f un b d)) (fun n => br_t lb_t hp) (fun n d hd H => ?_) 6 0 (by omega) (by omega)⟩
  have hc : 16 * d + b < 80 := by omega
  have hu := hb.2 (16 * d + b) hc
  have hw := rd_fwB (f := f) hb16 hb.2 (n := d) (by omega)
  have H' : wX_fewestUnits_11 post (nI b) (nI (rd_mk f 5)) f_active f_epoch a_dataNodeDown a_journalDown a_masterDown a_inTouch a_promise a_base a_logLength a_logEpoch a_logKind a_logA a_logB a_logC a_inodeState a_inodePlace a_inodeClient a_closeUnits a_rowLength a_rowBlock a_blockStamp a_replicaHeld a_replicaStamp a_unitCount a_unitValue n (qt_m (rd_fw f un b (d + 1))) (nI (d + 1)) := H
  rw [rd_fwS] at H'
  refine br_f (lb_f hd) ?_
  rw [show nI d * 16 + nI b = nI (16 * d + b) from mu_r d 16 b]
  refine ⟨vp_in_nI hc (by decide), nm_r (e' := nI (un (16 * d + b))) (by rw [nI_clamp (by omega)]; exact hD.2.2.2.1 _ hc) (xm_isIn hd (fun z => br_f bo_1 ?_) (fun z => br_t rfl (nm_r (nI_1 d) ?_)))⟩
  · refine cd_if (qt_m0E (by omega)) (fun y => nm_r (nI_1 d) ?_) (fun y => cd_if (qt_mleN (by omega) (by omega)) (fun x => nm_r (nI_1 d) ?_) (fun x => nm_r (nI_1 d) ?_))
    · rw [if_pos ⟨z, Or.inl y⟩, qt_ms] at H'; exact H'
    · rw [if_neg (fun w => by rcases w.2 with v | v <;> omega)] at H'; exact H'
    · rw [if_pos ⟨z, Or.inr (by omega)⟩, qt_ms] at H'; exact H'
  · rw [if_neg (fun w => by rw [z] at w; exact absurd w.1 (by decide))] at H'; exact H'
theorem xm_mostUnits {T : qt_T} {nu : Nat → Bool} {st un : Nat → Nat} {ua : Nat → Int32} {u : SX} (h : sx_T T u) (hI : qt_iv T) (hD : sx_D (nu, st, un, ua) u) (hb : rd_bd (nu, st, un, ua)) {post : Int32 → Prop} {b : Nat} (hb16 : b < 16) (hp : post (qt_m (rd_mo (rd_g nu st b (qt_sp T b)) un b 5))) : wpX_mostUnits post u (nI b) := by
  obtain ⟨f_active, f_epoch, a_dataNodeDown, a_journalDown, a_masterDown, a_inTouch, a_promise, a_base, a_logLength, a_logEpoch, a_logKind, a_logA, a_logB, a_logC, a_inodeState, a_inodePlace, a_inodeClient, a_closeUnits, a_rowLength, a_rowBlock, a_blockStamp, a_replicaHeld, a_replicaStamp, a_unitCount, a_unitValue⟩ := u
  unfold wpX_mostUnits
  refine xm_goodNodes (u := (f_active, f_epoch, a_dataNodeDown, a_journalDown, a_masterDown, a_inTouch, a_promise, a_base, a_logLength, a_logEpoch, a_logKind, a_logA, a_logB, a_logC, a_inodeState, a_inodePlace, a_inodeClient, a_closeUnits, a_rowLength, a_rowBlock, a_blockStamp, a_replicaHeld, a_replicaStamp, a_unitCount, a_unitValue)) h hI hD hb hb16 ?_
  generalize rd_g nu st b (qt_sp T b) = f at hp ⊢
  refine ⟨6, lq_f (fun n d s => wX_mostUnits_11 post (nI b) (nI (rd_mk f 5)) f_active f_epoch a_dataNodeDown a_journalDown a_masterDown a_inTouch a_promise a_base a_logLength a_logEpoch a_logKind a_logA a_logB a_logC a_inodeState a_inodePlace a_inodeClient a_closeUnits a_rowLength a_rowBlock a_blockStamp a_replicaHeld a_replicaStamp a_unitCount a_unitValue n s (nI d)) 5 (fun d => qt_m (rd_mo f un b d)) (fun n => br_t lb_t hp) (fun n d hd H => ?_) 6 0 (by omega) (by omega)⟩
  have hc : 16 * d + b < 80 := by omega
  have hu := hb.2 (16 * d + b) hc
  have hw := rd_moB (f := f) hb16 hb.2 (n := d) (by omega)
  have H' : wX_mostUnits_11 post (nI b) (nI (rd_mk f 5)) f_active f_epoch a_dataNodeDown a_journalDown a_masterDown a_inTouch a_promise a_base a_logLength a_logEpoch a_logKind a_logA a_logB a_logC a_inodeState a_inodePlace a_inodeClient a_closeUnits a_rowLength a_rowBlock a_blockStamp a_replicaHeld a_replicaStamp a_unitCount a_unitValue n (qt_m (rd_mo f un b (d + 1))) (nI (d + 1)) := H
  rw [rd_moS] at H'
  refine br_f (lb_f hd) ?_
  rw [show nI d * 16 + nI b = nI (16 * d + b) from mu_r d 16 b]
  refine ⟨vp_in_nI hc (by decide), nm_r (e' := nI (un (16 * d + b))) (by rw [nI_clamp (by omega)]; exact hD.2.2.2.1 _ hc) (xm_isIn hd (fun z => br_f bo_1 ?_) (fun z => br_t rfl (nm_r (nI_1 d) ?_)))⟩
  · refine cd_if (qt_Nm (by omega) (by omega)) (fun x => nm_r (nI_1 d) ?_) (fun x => nm_r (nI_1 d) ?_)
    · rw [if_neg (fun w => by omega)] at H'; exact H'
    · rw [if_pos ⟨z, by omega⟩, qt_ms] at H'; exact H'
  · rw [if_neg (fun w => by rw [z] at w; exact absurd w.1 (by decide))] at H'; exact H'
/-- the last block lets its file grow -/
def rd_ct (T : qt_T) (nu : Nat → Bool) (st un : Nat → Nat) (b m : Nat) : Prop := m < 5 ∧ (rd_hg nu st b (qt_sp T b) ∨ un (16 * m + b) < 8 ∨ rd_fw (rd_g nu st b (qt_sp T b)) un b 5 = 9)
theorem xm_canTakeUnit {T : qt_T} {nu : Nat → Bool} {st un : Nat → Nat} {ua : Nat → Int32} {u : SX} (h : sx_T T u) (hI : qt_iv T) (hD : sx_D (nu, st, un, ua) u) (hb : rd_bd (nu, st, un, ua)) {post : Int32 → Prop} {b m : Nat} (hb16 : b < 16) (hm : ls_f (fun d => rd_g nu st b (qt_sp T b) d = true) 5 m) (h1 : rd_ct T nu st un b m → post 1) (h0 : ¬ rd_ct T nu st un b m → post 0) : wpX_canTakeUnit post u (nI b) := by
  obtain ⟨f_active, f_epoch, a_dataNodeDown, a_journalDown, a_masterDown, a_inTouch, a_promise, a_base, a_logLength, a_logEpoch, a_logKind, a_logA, a_logB, a_logC, a_inodeState, a_inodePlace, a_inodeClient, a_closeUnits, a_rowLength, a_rowBlock, a_blockStamp, a_replicaHeld, a_replicaStamp, a_unitCount, a_unitValue⟩ := u
  unfold wpX_canTakeUnit
  refine xm_firstGoodNode (u := (f_active, f_epoch, a_dataNodeDown, a_journalDown, a_masterDown, a_inTouch, a_promise, a_base, a_logLength, a_logEpoch, a_logKind, a_logA, a_logB, a_logC, a_inodeState, a_inodePlace, a_inodeClient, a_closeUnits, a_rowLength, a_rowBlock, a_blockStamp, a_replicaHeld, a_replicaStamp, a_unitCount, a_unitValue)) h hI hD hb hb16 hm ?_
  by_cases hlt : m < 5
  · rw [ls_vS hlt]
    have hc : 16 * m + b < 80 := by omega
    have hu := hb.2 (16 * m + b) hc
    have hw := rd_fwB (f := rd_g nu st b (qt_sp T b)) hb16 hb.2 (n := 5) (by omega)
    refine br_f (ix_m1 (by omega)) (xm_hangs (u := (f_active, f_epoch, a_dataNodeDown, a_journalDown, a_masterDown, a_inTouch, a_promise, a_base, a_logLength, a_logEpoch, a_logKind, a_logA, a_logB, a_logC, a_inodeState, a_inodePlace, a_inodeClient, a_closeUnits, a_rowLength, a_rowBlock, a_blockStamp, a_replicaHeld, a_replicaStamp, a_unitCount, a_unitValue)) h hI hD hb hb16 (fun z => br_f bo_1 (h1 ⟨hlt, Or.inl z⟩)) (fun z => br_t rfl ?_))
    rw [show nI m * 16 + nI b = nI (16 * m + b) from mu_r m 16 b]
    have e : a_unitCount (nI (16 * m + b)).toNatClampNeg = nI (un (16 * m + b)) := by rw [nI_clamp (by omega)]; exact hD.2.2.2.1 _ hc
    rw [e]
    refine ⟨vp_in_nI hc (by decide), cd_if (nI_ltI (b := 8) (by omega) (by decide)) (fun y => h1 ⟨hlt, Or.inr (Or.inl y)⟩) (fun y => xm_fewestUnits (u := (f_active, f_epoch, a_dataNodeDown, a_journalDown, a_masterDown, a_inTouch, a_promise, a_base, a_logLength, a_logEpoch, a_logKind, a_logA, a_logB, a_logC, a_inodeState, a_inodePlace, a_inodeClient, a_closeUnits, a_rowLength, a_rowBlock, a_blockStamp, a_replicaHeld, a_replicaStamp, a_unitCount, a_unitValue)) h hI hD hb hb16 (cd_if (qt_mEn (s := 8) (by omega) (by decide)) (fun x => h1 ⟨hlt, Or.inr (Or.inr x)⟩) (fun x => h0 (fun w => ?_))))⟩
    rcases w.2 with v | v | v
    · exact z v
    · exact y v
    · exact x v
  · have e : m = 5 := by have := hm.1; omega
    subst e
    rw [ls_vN]
    exact br_t rfl (h0 (fun z => hlt z.1))
theorem rd_ldS (st : Nat → Nat) (d n : Nat) : rd_ld st d (n + 1) = rd_ld st d n + (if st (16 * d + n) = 0 then 0 else 1) := rfl
theorem xm_loadOf {nu : Nat → Bool} {st un : Nat → Nat} {ua : Nat → Int32} {u : SX} (hD : sx_D (nu, st, un, ua) u) {post : Int32 → Prop} {d : Nat} (hd : d < 5) (hp : post (nI (rd_ld st d 16))) : wpX_loadOf post u (nI d) := by
  obtain ⟨f_active, f_epoch, a_dataNodeDown, a_journalDown, a_masterDown, a_inTouch, a_promise, a_base, a_logLength, a_logEpoch, a_logKind, a_logA, a_logB, a_logC, a_inodeState, a_inodePlace, a_inodeClient, a_closeUnits, a_rowLength, a_rowBlock, a_blockStamp, a_replicaHeld, a_replicaStamp, a_unitCount, a_unitValue⟩ := u
  refine ⟨17, lq_f (fun n b s => wX_loadOf_4 post (nI d) f_active f_epoch a_dataNodeDown a_journalDown a_masterDown a_inTouch a_promise a_base a_logLength a_logEpoch a_logKind a_logA a_logB a_logC a_inodeState a_inodePlace a_inodeClient a_closeUnits a_rowLength a_rowBlock a_blockStamp a_replicaHeld a_replicaStamp a_unitCount a_unitValue n s (nI b)) 16 (fun b => nI (rd_ld st d b)) (fun n => br_t lb_t hp) (fun n b hb H => ?_) 17 0 (by omega) (by omega)⟩
  have hc : 16 * d + b < 80 := by omega
  have H' : wX_loadOf_4 post (nI d) f_active f_epoch a_dataNodeDown a_journalDown a_masterDown a_inTouch a_promise a_base a_logLength a_logEpoch a_logKind a_logA a_logB a_logC a_inodeState a_inodePlace a_inodeClient a_closeUnits a_rowLength a_rowBlock a_blockStamp a_replicaHeld a_replicaStamp a_unitCount a_unitValue n (nI (rd_ld st d (b + 1))) (nI (b + 1)) := H
  rw [rd_ldS] at H'
  refine br_f (lb_f hb) ?_
  rw [show nI d * 16 + nI b = nI (16 * d + b) from mu_r d 16 b]
  refine ⟨vp_in_nI hc (by decide), cd_if (xm_held hD.2.1 hc) (fun z => nm_r (nI_1 b) ?_) (fun z => nm_r (nI_1 _) (nm_r (nI_1 b) ?_))⟩
  · rw [if_pos z] at H'; exact H'
  · rw [if_neg z] at H'; exact H'
def rd_iv2 (nu : Nat → Bool) (st : Nat → Nat) (ok : Nat → Bool) (n : Nat) : Int32 × Int32 := (qt_m (rd_il nu st ok n), if rd_il nu st ok n = 0 then 0 else nI (rd_ld st (rd_il nu st ok n - 1) 16))
theorem xm_leastLoadedNode {nu : Nat → Bool} {st un : Nat → Nat} {ua : Nat → Int32} {u : SX} (hD : sx_D (nu, st, un, ua) u) {post : Int32 → Prop} {f : Nat → Bool} (hp : post (qt_m (rd_il nu st (fun x => !f x) 5))) : wpX_leastLoadedNode post u (nI (rd_mk f 5)) := by
  obtain ⟨f_active, f_epoch, a_dataNodeDown, a_journalDown, a_masterDown, a_inTouch, a_promise, a_base, a_logLength, a_logEpoch, a_logKind, a_logA, a_logB, a_logC, a_inodeState, a_inodePlace, a_inodeClient, a_closeUnits, a_rowLength, a_rowBlock, a_blockStamp, a_replicaHeld, a_replicaStamp, a_unitCount, a_unitValue⟩ := u
  refine ⟨6, lq_f (fun n d (s : Int32 × Int32) => wX_leastLoadedNode_7 post (nI (rd_mk f 5)) f_active f_epoch a_dataNodeDown a_journalDown a_masterDown a_inTouch a_promise a_base a_logLength a_logEpoch a_logKind a_logA a_logB a_logC a_inodeState a_inodePlace a_inodeClient a_closeUnits a_rowLength a_rowBlock a_blockStamp a_replicaHeld a_replicaStamp a_unitCount a_unitValue n s.1 s.2 (nI d)) 5 (rd_iv2 nu st (fun x => !f x)) (fun n => br_t lb_t hp) (fun n d hd H => ?_) 6 0 (by omega) (by omega)⟩
  have hl := rd_ldB st d 16
  have hil : rd_il nu st (fun x => !f x) d ≤ d := by
    rcases rd_ilP (nu := nu) (st := st) (ok := fun x => !f x) (n := d) with z | z <;> omega
  have hT : f d = false → nu d = true → (rd_il nu st (fun x => !f x) d = 0 ∨ rd_ld st d 16 < rd_ld st (rd_il nu st (fun x => !f x) d - 1) 16) → wX_leastLoadedNode_7 post (nI (rd_mk f 5)) f_active f_epoch a_dataNodeDown a_journalDown a_masterDown a_inTouch a_promise a_base a_logLength a_logEpoch a_logKind a_logA a_logB a_logC a_inodeState a_inodePlace a_inodeClient a_closeUnits a_rowLength a_rowBlock a_blockStamp a_replicaHeld a_replicaStamp a_unitCount a_unitValue n (nI d) (nI (rd_ld st d 16)) (nI (d + 1)) := by
    intro z1 z2 z3
    have e : rd_iv2 nu st (fun x => !f x) (d + 1) = (nI d, nI (rd_ld st d 16)) := by
      unfold rd_iv2
      rw [rd_ilS, if_pos ⟨by rw [z1]; rfl, z2, z3⟩, qt_ms]
      rfl
    rw [e] at H
    exact H
  have hF : ¬ (f d = false ∧ nu d = true ∧ (rd_il nu st (fun x => !f x) d = 0 ∨ rd_ld st d 16 < rd_ld st (rd_il nu st (fun x => !f x) d - 1) 16)) → wX_leastLoadedNode_7 post (nI (rd_mk f 5)) f_active f_epoch a_dataNodeDown a_journalDown a_masterDown a_inTouch a_promise a_base a_logLength a_logEpoch a_logKind a_logA a_logB a_logC a_inodeState a_inodePlace a_inodeClient a_closeUnits a_rowLength a_rowBlock a_blockStamp a_replicaHeld a_replicaStamp a_unitCount a_unitValue n (rd_iv2 nu st (fun x => !f x) d).1 (rd_iv2 nu st (fun x => !f x) d).2 (nI (d + 1)) := by
    intro z
    have e : rd_iv2 nu st (fun x => !f x) (d + 1) = rd_iv2 nu st (fun x => !f x) d := by
      unfold rd_iv2
      rw [rd_ilS, if_neg (fun y => z ⟨by simpa using y.1, y.2⟩)]
    rw [e] at H
    exact H
  refine br_f (lb_f hd) (xm_loadOf (u := (f_active, f_epoch, a_dataNodeDown, a_journalDown, a_masterDown, a_inTouch, a_promise, a_base, a_logLength, a_logEpoch, a_logKind, a_logA, a_logB, a_logC, a_inodeState, a_inodePlace, a_inodeClient, a_closeUnits, a_rowLength, a_rowBlock, a_blockStamp, a_replicaHeld, a_replicaStamp, a_unitCount, a_unitValue)) hD hd ⟨vp_in_nI hd (by decide), cd_if (cd_n (hD.1 d hd) (by omega)) (fun hu => xm_isIn hd (fun z => br_f bo_1 (nm_r (nI_1 d) (hF (fun y => by rw [z] at y; exact absurd y.1 (by decide))))) (fun z => br_t rfl ?_)) (fun hu => nm_r (nI_1 d) (hF (fun y => hu y.2.1)))⟩)
  refine cd_if (qt_m0E (by omega)) (fun y => nm_r (nI_1 d) (hT z hu (Or.inl y))) (fun y => ?_)
  have hl2 := rd_ldB st (rd_il nu st (fun x => !f x) d - 1) 16
  have e : (rd_iv2 nu st (fun x => !f x) d).2 = nI (rd_ld st (rd_il nu st (fun x => !f x) d - 1) 16) := if_neg y
  have hle : (rd_iv2 nu st (fun x => !f x) d).2 ≤ nI (rd_ld st d 16) ↔ rd_ld st (rd_il nu st (fun x => !f x) d - 1) 16 ≤ rd_ld st d 16 := by rw [e, nI_leI (by omega) (by omega)]
  exact cd_if hle (fun x => nm_r (nI_1 d) (hF (fun w => by rcases w.2.2 with v | v <;> omega))) (fun x => nm_r (nI_1 d) (hT z hu (Or.inr (by omega))))
theorem xm_hasTooFewGood {T : qt_T} {nu : Nat → Bool} {st un : Nat → Nat} {ua : Nat → Int32} {u : SX} (h : sx_T T u) (hI : qt_iv T) (hD : sx_D (nu, st, un, ua) u) (hb : rd_bd (nu, st, un, ua)) {post : Int32 → Prop} {b : Nat} (hb16 : b < 16) (h1 : 0 < rd_cn (rd_g nu st b (qt_sp T b)) 5 → rd_cn (rd_g nu st b (qt_sp T b)) 5 < 3 → post 1) (h0 : ¬ (0 < rd_cn (rd_g nu st b (qt_sp T b)) 5 ∧ rd_cn (rd_g nu st b (qt_sp T b)) 5 < 3) → post 0) : wpX_hasTooFewGood post u (nI b) := by
  obtain ⟨f_active, f_epoch, a_dataNodeDown, a_journalDown, a_masterDown, a_inTouch, a_promise, a_base, a_logLength, a_logEpoch, a_logKind, a_logA, a_logB, a_logC, a_inodeState, a_inodePlace, a_inodeClient, a_closeUnits, a_rowLength, a_rowBlock, a_blockStamp, a_replicaHeld, a_replicaStamp, a_unitCount, a_unitValue⟩ := u
  unfold wpX_hasTooFewGood
  refine xm_goodNodes (u := (f_active, f_epoch, a_dataNodeDown, a_journalDown, a_masterDown, a_inTouch, a_promise, a_base, a_logLength, a_logEpoch, a_logKind, a_logA, a_logB, a_logC, a_inodeState, a_inodePlace, a_inodeClient, a_closeUnits, a_rowLength, a_rowBlock, a_blockStamp, a_replicaHeld, a_replicaStamp, a_unitCount, a_unitValue)) h hI hD hb hb16 ?_
  generalize rd_g nu st b (qt_sp T b) = f at h1 h0 ⊢
  refine ⟨6, lq_f (fun n d s => wX_hasTooFewGood_11 post (nI (rd_mk f 5)) f_active f_epoch a_dataNodeDown a_journalDown a_masterDown a_inTouch a_promise a_base a_logLength a_logEpoch a_logKind a_logA a_logB a_logC a_inodeState a_inodePlace a_inodeClient a_closeUnits a_rowLength a_rowBlock a_blockStamp a_replicaHeld a_replicaStamp a_unitCount a_unitValue n s (nI d)) 5 (fun d => nI (rd_cn f d)) (fun n => br_t lb_t ?_) (fun n d hd H => ?_) 6 0 (by omega) (by omega)⟩
  · have hl := rd_cnL f 5
    exact cd_if (nI_leI (b := 0) (by omega) (by decide)) (fun z => h0 (fun y => by omega)) (fun z => cd_if (nI_leI (a := 3) (by decide) (by omega)) (fun y => h0 (fun x => by omega)) (fun y => h1 (by omega) (by omega)))
  · refine br_f (lb_f hd) (xm_isIn hd (fun z => br_f bo_1 (nm_r (rd_cnT z) (nm_r (nI_1 d) H))) (fun z => br_t rfl (nm_r (nI_1 d) ?_)))
    rw [← rd_cnF z]; exact H
