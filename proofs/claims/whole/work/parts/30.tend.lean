/-! tend -/
theorem qt_uu {f : Nat → Nat} {k x y : Nat} : qt_u (qt_u f k x) k y = qt_u f k y := by
  funext j
  by_cases z : j = k
  · subst z; rw [qt_us, qt_us]
  · rw [qt_un z, qt_un z, qt_un z]
section
variable {T : qt_T} {mu ju : Nat → Bool} {ac ep : Nat} {to : Nat → Bool} {pr ba le : Nat → Nat} {lg : Nat → Nat → qt_R} {nu : Nat → Bool} {st un : Nat → Nat} {ua : Nat → Int32}
theorem xm_putEmpty {u : SX} (h : sx_T T u) (hL : sx_L (mu, ju, ac, ep, to, pr, ba, le, lg) u) (hD : sx_D (nu, st, un, ua) u) {post : SX → Prop} {d b s : Nat} (hd : d < 5) (hb : b < 16) (hp : ∀ u', sx_T T u' → sx_L (mu, ju, ac, ep, to, pr, ba, le, lg) u' → sx_D (nu, qt_u st (16 * d + b) (s + 1), qt_u un (16 * d + b) 0, ua) u' → post u') : wpX_putEmptyReplica post u (nI d) (nI b) (nI s) := by
  obtain ⟨f_active, f_epoch, a_dataNodeDown, a_journalDown, a_masterDown, a_inTouch, a_promise, a_base, a_logLength, a_logEpoch, a_logKind, a_logA, a_logB, a_logC, a_inodeState, a_inodePlace, a_inodeClient, a_closeUnits, a_rowLength, a_rowBlock, a_blockStamp, a_replicaHeld, a_replicaStamp, a_unitCount, a_unitValue⟩ := u
  obtain ⟨l1, l2, l3, l4, l5, l6, l7, l8, l9⟩ := hL
  obtain ⟨d1, d2, d3, d4, d5⟩ := hD
  have h' : qt_ag True T a_inodeState a_inodePlace a_inodeClient a_closeUnits a_rowLength a_rowBlock a_blockStamp := h
  have hc : 16 * d + b < 80 := by omega
  have hv := vp_in_nI hc (by decide : 80 < 2 ^ 31)
  have hcc : (nI (16 * d + b)).toNatClampNeg = 16 * d + b := nI_clamp (by omega)
  refine nm_r (mu_r d 16 b) ⟨hv, nm_e ⟨hv, nm_e ⟨hv, nm_e ?_⟩⟩⟩
  rw [hcc]
  refine hp _ h' ⟨l1, l2, l3, l4, l5, l6, l7, l8, l9⟩ ⟨d1, ?_, ?_, ?_, d5⟩
  · intro j hj
    by_cases z : j = 16 * d + b
    · subst z; rw [pk_us, qt_us, if_neg (by omega)]; rfl
    · rw [pk_un z, qt_un z]; exact d2 j hj
  · intro j hj
    by_cases z : j = 16 * d + b
    · subst z; intro _; rw [pk_us, qt_us]; rfl
    · rw [pk_un z, qt_un z]; exact d3 j hj
  · intro j hj
    by_cases z : j = 16 * d + b
    · subst z; rw [pk_us, qt_us]; rfl
    · rw [pk_un z, qt_un z]; exact d4 j hj
/-- block b may be copied -/
def rd_cpb (T : qt_T) (nu : Nat → Bool) (st : Nat → Nat) (b : Nat) : Prop := qt_in (qt_rl T) (qt_ro T) b ∧ ¬ qt_ol T b ∧ 0 < rd_cn (rd_g nu st b (qt_sp T b)) 5 ∧ rd_cn (rd_g nu st b (qt_sp T b)) 5 < 3 ∧ rd_il nu st (fun x => !rd_g nu st b (qt_sp T b) x) 5 ≠ 0
def rd_cpD (D : rd_D) (b m t : Nat) : rd_D := match D with | (nu, st, un, ua) => (nu, qt_u st (16 * t + b) (st (16 * m + b)), qt_u un (16 * t + b) (un (16 * m + b)), rd_cp ua (16 * t + b) (16 * m + b) (un (16 * m + b)))
theorem xm_copyFirst {u : SX} (h : sx_T T u) (hI : qt_iv T) (hL : sx_L (mu, ju, ac, ep, to, pr, ba, le, lg) u) (hD : sx_D (nu, st, un, ua) u) (hb : rd_bd (nu, st, un, ua)) {post : SX → Prop} {b m t : Nat} (hb16 : b < 16) (hm : ls_f (fun d => rd_g nu st b (qt_sp T b) d = true) 5 m) (hm5 : m < 5) (ht5 : t < 5) (hp : ∀ u', sx_T T u' → sx_L (mu, ju, ac, ep, to, pr, ba, le, lg) u' → sx_D (rd_cpD (nu, st, un, ua) b m t) u' → post u') : wpX_copyFirstReplica post u (nI b) (nI t) := by
  obtain ⟨f_active, f_epoch, a_dataNodeDown, a_journalDown, a_masterDown, a_inTouch, a_promise, a_base, a_logLength, a_logEpoch, a_logKind, a_logA, a_logB, a_logC, a_inodeState, a_inodePlace, a_inodeClient, a_closeUnits, a_rowLength, a_rowBlock, a_blockStamp, a_replicaHeld, a_replicaStamp, a_unitCount, a_unitValue⟩ := u
  unfold wpX_copyFirstReplica
  obtain ⟨g1, g2, g3⟩ := rd_gI.mp (hm.2.2 hm5)
  have hc : 16 * m + b < 80 := by omega
  have hc2 : 16 * t + b < 80 := by omega
  have hu := hb.2 _ hc
  have hv := vp_in_nI hc (by decide : 80 < 2 ^ 31)
  have hcc : (nI (16 * m + b)).toNatClampNeg = 16 * m + b := nI_clamp (by omega)
  have hst0 : st (16 * m + b) ≠ 0 := by omega
  refine xm_firstGoodNode (u := (f_active, f_epoch, a_dataNodeDown, a_journalDown, a_masterDown, a_inTouch, a_promise, a_base, a_logLength, a_logEpoch, a_logKind, a_logA, a_logB, a_logC, a_inodeState, a_inodePlace, a_inodeClient, a_closeUnits, a_rowLength, a_rowBlock, a_blockStamp, a_replicaHeld, a_replicaStamp, a_unitCount, a_unitValue)) h hI hD hb hb16 hm ?_
  rw [ls_vS hm5]
  refine br_f (ix_m1 (by omega)) (nm_r (mu_r m 16 b) (nm_r (mu_r t 16 b) ⟨hv, nm_r (e' := nI (un (16 * m + b))) (by rw [hcc]; exact hD.2.2.2.1 _ hc) ⟨hv, ?_⟩⟩))
  rw [hcc, hD.2.2.1 _ hc hst0]
  refine xm_putEmpty (u := (f_active, f_epoch, a_dataNodeDown, a_journalDown, a_masterDown, a_inTouch, a_promise, a_base, a_logLength, a_logEpoch, a_logKind, a_logA, a_logB, a_logC, a_inodeState, a_inodePlace, a_inodeClient, a_closeUnits, a_rowLength, a_rowBlock, a_blockStamp, a_replicaHeld, a_replicaStamp, a_unitCount, a_unitValue)) h hL hD ht5 hb16 ?_
  have es : st (16 * m + b) - 1 + 1 = st (16 * m + b) := by omega
  rw [es]
  have key : ∀ k n j, j + k = un (16 * m + b) → k < n → ∀ f_active f_epoch a_dataNodeDown a_journalDown a_masterDown a_inTouch a_promise a_base a_logLength a_logEpoch a_logKind a_logA a_logB a_logC a_inodeState a_inodePlace a_inodeClient a_closeUnits a_rowLength a_rowBlock a_blockStamp a_replicaHeld a_replicaStamp a_unitCount a_unitValue, sx_T T (f_active, f_epoch, a_dataNodeDown, a_journalDown, a_masterDown, a_inTouch, a_promise, a_base, a_logLength, a_logEpoch, a_logKind, a_logA, a_logB, a_logC, a_inodeState, a_inodePlace, a_inodeClient, a_closeUnits, a_rowLength, a_rowBlock, a_blockStamp, a_replicaHeld, a_replicaStamp, a_unitCount, a_unitValue) → sx_L (mu, ju, ac, ep, to, pr, ba, le, lg) (f_active, f_epoch, a_dataNodeDown, a_journalDown, a_masterDown, a_inTouch, a_promise, a_base, a_logLength, a_logEpoch, a_logKind, a_logA, a_logB, a_logC, a_inodeState, a_inodePlace, a_inodeClient, a_closeUnits, a_rowLength, a_rowBlock, a_blockStamp, a_replicaHeld, a_replicaStamp, a_unitCount, a_unitValue) → sx_D (nu, qt_u st (16 * t + b) (st (16 * m + b)), qt_u un (16 * t + b) j, rd_cp ua (16 * t + b) (16 * m + b) j) (f_active, f_epoch, a_dataNodeDown, a_journalDown, a_masterDown, a_inTouch, a_promise, a_base, a_logLength, a_logEpoch, a_logKind, a_logA, a_logB, a_logC, a_inodeState, a_inodePlace, a_inodeClient, a_closeUnits, a_rowLength, a_rowBlock, a_blockStamp, a_replicaHeld, a_replicaStamp, a_unitCount, a_unitValue) → wX_copyFirstReplica_53 post (nI (16 * m + b)) (nI (16 * t + b)) (nI (un (16 * m + b))) n (nI j) f_active f_epoch a_dataNodeDown a_journalDown a_masterDown a_inTouch a_promise a_base a_logLength a_logEpoch a_logKind a_logA a_logB a_logC a_inodeState a_inodePlace a_inodeClient a_closeUnits a_rowLength a_rowBlock a_blockStamp a_replicaHeld a_replicaStamp a_unitCount a_unitValue := by
    intro k
    induction k with
    | zero =>
      intro n j hj hn f_active f_epoch a_dataNodeDown a_journalDown a_masterDown a_inTouch a_promise a_base a_logLength a_logEpoch a_logKind a_logA a_logB a_logC a_inodeState a_inodePlace a_inodeClient a_closeUnits a_rowLength a_rowBlock a_blockStamp a_replicaHeld a_replicaStamp a_unitCount a_unitValue h hL hD
      obtain ⟨n, rfl⟩ : ∃ n', n = n' + 1 := ⟨n - 1, by omega⟩
      have e : j = un (16 * m + b) := by omega
      subst e
      exact br_t lb_t (hp _ h hL hD)
    | succ k ih =>
      intro n j hj hn f_active f_epoch a_dataNodeDown a_journalDown a_masterDown a_inTouch a_promise a_base a_logLength a_logEpoch a_logKind a_logA a_logB a_logC a_inodeState a_inodePlace a_inodeClient a_closeUnits a_rowLength a_rowBlock a_blockStamp a_replicaHeld a_replicaStamp a_unitCount a_unitValue h hL hD
      obtain ⟨n, rfl⟩ : ∃ n', n = n' + 1 := ⟨n - 1, by omega⟩
      refine br_f (lb_f (by omega) (by omega)) ?_
      rw [show nI (16 * m + b) * 8 + nI j = nI (8 * (16 * m + b) + j) from mu_r _ 8 _]
      refine ⟨vp_in_nI (by omega) (by decide), xm_putUnit (u := (f_active, f_epoch, a_dataNodeDown, a_journalDown, a_masterDown, a_inTouch, a_promise, a_base, a_logLength, a_logEpoch, a_logKind, a_logA, a_logB, a_logC, a_inodeState, a_inodePlace, a_inodeClient, a_closeUnits, a_rowLength, a_rowBlock, a_blockStamp, a_replicaHeld, a_replicaStamp, a_unitCount, a_unitValue)) h hL hD hc2 (by rw [qt_us]; omega) ?_⟩
      rintro ⟨f_active, f_epoch, a_dataNodeDown, a_journalDown, a_masterDown, a_inTouch, a_promise, a_base, a_logLength, a_logEpoch, a_logKind, a_logA, a_logB, a_logC, a_inodeState, a_inodePlace, a_inodeClient, a_closeUnits, a_rowLength, a_rowBlock, a_blockStamp, a_replicaHeld, a_replicaStamp, a_unitCount, a_unitValue⟩ k1 k2 k3
      rw [qt_us, qt_uu, nI_clamp (by omega), hD.2.2.2.2] at k3
      exact nm_r (nI_1 j) (ih n (j + 1) (by omega) (by omega) _ _ _ _ _ _ _ _ _ _ _ _ _ _ _ _ _ _ _ _ _ _ _ _ _ k1 k2 k3)
  rintro ⟨f_active, f_epoch, a_dataNodeDown, a_journalDown, a_masterDown, a_inTouch, a_promise, a_base, a_logLength, a_logEpoch, a_logKind, a_logA, a_logB, a_logC, a_inodeState, a_inodePlace, a_inodeClient, a_closeUnits, a_rowLength, a_rowBlock, a_blockStamp, a_replicaHeld, a_replicaStamp, a_unitCount, a_unitValue⟩ k1 k2 k3
  exact ⟨un (16 * m + b) + 1, key (un (16 * m + b)) _ 0 (by omega) (by omega) _ _ _ _ _ _ _ _ _ _ _ _ _ _ _ _ _ _ _ _ _ _ _ _ _ k1 k2 k3⟩
theorem xm_replicate {u : SX} (h : sx_T T u) (hI : qt_iv T) (hL : sx_L (mu, ju, ac, ep, to, pr, ba, le, lg) u) (hD : sx_D (nu, st, un, ua) u) (hb : rd_bd (nu, st, un, ua)) {post : Int32 → SX → Prop} {b m t : Nat} (hbm : ls_f (rd_cpb T nu st) 16 b) (hm : b < 16 → ls_f (fun d => rd_g nu st b (qt_sp T b) d = true) 5 m ∧ m < 5 ∧ t < 5 ∧ rd_il nu st (fun x => !rd_g nu st b (qt_sp T b) x) 5 = t + 1)
    (h0 : b = 16 → post (-1) u) (h1 : b < 16 → ∀ u', sx_T T u' → sx_L (mu, ju, ac, ep, to, pr, ba, le, lg) u' → sx_D (rd_cpD (nu, st, un, ua) b m t) u' → post (nI b) u') : wpX_replicateOneBlock post u := by
  obtain ⟨f_active, f_epoch, a_dataNodeDown, a_journalDown, a_masterDown, a_inTouch, a_promise, a_base, a_logLength, a_logEpoch, a_logKind, a_logA, a_logB, a_logC, a_inodeState, a_inodePlace, a_inodeClient, a_closeUnits, a_rowLength, a_rowBlock, a_blockStamp, a_replicaHeld, a_replicaStamp, a_unitCount, a_unitValue⟩ := u
  refine ⟨17, lq_s (fun n d => wX_replicateOneBlock_2 post f_active f_epoch a_dataNodeDown a_journalDown a_masterDown a_inTouch a_promise a_base a_logLength a_logEpoch a_logKind a_logA a_logB a_logC a_inodeState a_inodePlace a_inodeClient a_closeUnits a_rowLength a_rowBlock a_blockStamp a_replicaHeld a_replicaStamp a_unitCount a_unitValue n (nI d)) 16 b hbm.1 (fun n e => ?_) (fun n hlt => ?_) (fun n d hd H => ?_) 17 0 (by omega) (by omega)⟩
  · exact br_t lb_t (h0 e)
  · obtain ⟨c1, c2, c3, c4, c5⟩ := hbm.2.2 hlt
    obtain ⟨m1, m2, m3, m4⟩ := hm hlt
    refine br_f (lb_f hlt) (xm_isInRow (u := (f_active, f_epoch, a_dataNodeDown, a_journalDown, a_masterDown, a_inTouch, a_promise, a_base, a_logLength, a_logEpoch, a_logKind, a_logA, a_logB, a_logC, a_inodeState, a_inodePlace, a_inodeClient, a_closeUnits, a_rowLength, a_rowBlock, a_blockStamp, a_replicaHeld, a_replicaStamp, a_unitCount, a_unitValue)) h hI hlt (fun _ => br_f bo_1 (xm_isLastOfOpenFile (u := (f_active, f_epoch, a_dataNodeDown, a_journalDown, a_masterDown, a_inTouch, a_promise, a_base, a_logLength, a_logEpoch, a_logKind, a_logA, a_logB, a_logC, a_inodeState, a_inodePlace, a_inodeClient, a_closeUnits, a_rowLength, a_rowBlock, a_blockStamp, a_replicaHeld, a_replicaStamp, a_unitCount, a_unitValue)) h hI hlt (fun z => absurd z c2) (fun _ => br_t rfl (xm_hasTooFewGood (u := (f_active, f_epoch, a_dataNodeDown, a_journalDown, a_masterDown, a_inTouch, a_promise, a_base, a_logLength, a_logEpoch, a_logKind, a_logA, a_logB, a_logC, a_inodeState, a_inodePlace, a_inodeClient, a_closeUnits, a_rowLength, a_rowBlock, a_blockStamp, a_replicaHeld, a_replicaStamp, a_unitCount, a_unitValue)) h hI hD hb hlt (fun _ _ => br_f bo_1 (xm_goodNodes (u := (f_active, f_epoch, a_dataNodeDown, a_journalDown, a_masterDown, a_inTouch, a_promise, a_base, a_logLength, a_logEpoch, a_logKind, a_logA, a_logB, a_logC, a_inodeState, a_inodePlace, a_inodeClient, a_closeUnits, a_rowLength, a_rowBlock, a_blockStamp, a_replicaHeld, a_replicaStamp, a_unitCount, a_unitValue)) h hI hD hb hlt (xm_leastLoadedNode (u := (f_active, f_epoch, a_dataNodeDown, a_journalDown, a_masterDown, a_inTouch, a_promise, a_base, a_logLength, a_logEpoch, a_logKind, a_logA, a_logB, a_logC, a_inodeState, a_inodePlace, a_inodeClient, a_closeUnits, a_rowLength, a_rowBlock, a_blockStamp, a_replicaHeld, a_replicaStamp, a_unitCount, a_unitValue)) hD ?_))) (fun z => absurd ⟨c3, c4⟩ z))))) (fun z => absurd c1 z))
    rw [m4, qt_ms]
    refine br_f (ix_m1 (by omega)) (xm_copyFirst (u := (f_active, f_epoch, a_dataNodeDown, a_journalDown, a_masterDown, a_inTouch, a_promise, a_base, a_logLength, a_logEpoch, a_logKind, a_logA, a_logB, a_logC, a_inodeState, a_inodePlace, a_inodeClient, a_closeUnits, a_rowLength, a_rowBlock, a_blockStamp, a_replicaHeld, a_replicaStamp, a_unitCount, a_unitValue)) h hI hL hD hb hlt m1 m2 m3 ?_)
    rintro ⟨f_active, f_epoch, a_dataNodeDown, a_journalDown, a_masterDown, a_inTouch, a_promise, a_base, a_logLength, a_logEpoch, a_logKind, a_logA, a_logB, a_logC, a_inodeState, a_inodePlace, a_inodeClient, a_closeUnits, a_rowLength, a_rowBlock, a_blockStamp, a_replicaHeld, a_replicaStamp, a_unitCount, a_unitValue⟩ k1 k2 k3
    exact h1 hlt _ k1 k2 k3
  · have hlt : d < 16 := by have := hbm.1; omega
    have z := hbm.2.1 d hd
    have hil : rd_il nu st (fun x => !rd_g nu st d (qt_sp T d) x) 5 ≤ 5 := by
      rcases rd_ilP (nu := nu) (st := st) (ok := fun x => !rd_g nu st d (qt_sp T d) x) (n := 5) with y | y <;> omega
    refine br_f (lb_f hlt) (xm_isInRow (u := (f_active, f_epoch, a_dataNodeDown, a_journalDown, a_masterDown, a_inTouch, a_promise, a_base, a_logLength, a_logEpoch, a_logKind, a_logA, a_logB, a_logC, a_inodeState, a_inodePlace, a_inodeClient, a_closeUnits, a_rowLength, a_rowBlock, a_blockStamp, a_replicaHeld, a_replicaStamp, a_unitCount, a_unitValue)) h hI hlt (fun c1 => br_f bo_1 (xm_isLastOfOpenFile (u := (f_active, f_epoch, a_dataNodeDown, a_journalDown, a_masterDown, a_inTouch, a_promise, a_base, a_logLength, a_logEpoch, a_logKind, a_logA, a_logB, a_logC, a_inodeState, a_inodePlace, a_inodeClient, a_closeUnits, a_rowLength, a_rowBlock, a_blockStamp, a_replicaHeld, a_replicaStamp, a_unitCount, a_unitValue)) h hI hlt (fun _ => br_f bo_1 (nm_r (nI_1 d) H)) (fun c2 => br_t rfl (xm_hasTooFewGood (u := (f_active, f_epoch, a_dataNodeDown, a_journalDown, a_masterDown, a_inTouch, a_promise, a_base, a_logLength, a_logEpoch, a_logKind, a_logA, a_logB, a_logC, a_inodeState, a_inodePlace, a_inodeClient, a_closeUnits, a_rowLength, a_rowBlock, a_blockStamp, a_replicaHeld, a_replicaStamp, a_unitCount, a_unitValue)) h hI hD hb hlt (fun c3 c4 => br_f bo_1 (xm_goodNodes (u := (f_active, f_epoch, a_dataNodeDown, a_journalDown, a_masterDown, a_inTouch, a_promise, a_base, a_logLength, a_logEpoch, a_logKind, a_logA, a_logB, a_logC, a_inodeState, a_inodePlace, a_inodeClient, a_closeUnits, a_rowLength, a_rowBlock, a_blockStamp, a_replicaHeld, a_replicaStamp, a_unitCount, a_unitValue)) h hI hD hb hlt (xm_leastLoadedNode (u := (f_active, f_epoch, a_dataNodeDown, a_journalDown, a_masterDown, a_inTouch, a_promise, a_base, a_logLength, a_logEpoch, a_logKind, a_logA, a_logB, a_logC, a_inodeState, a_inodePlace, a_inodeClient, a_closeUnits, a_rowLength, a_rowBlock, a_blockStamp, a_replicaHeld, a_replicaStamp, a_unitCount, a_unitValue)) hD ?_))) (fun _ => br_t rfl (nm_r (nI_1 d) H)))))) (fun _ => br_t rfl (nm_r (nI_1 d) H)))
    exact cd_if (qt_m0E (by omega)) (fun _ => nm_r (nI_1 d) H) (fun c5 => absurd ⟨c1, c2, c3, c4, c5⟩ z)
theorem xm_isUseful {u : SX} (h : sx_T T u) (hI : qt_iv T) (hD : sx_D (nu, st, un, ua) u) (hb : rd_bd (nu, st, un, ua)) {post : Int32 → Prop} {d b : Nat} (hd : d < 5) (hb16 : b < 16) (h1 : qt_in (qt_rl T) (qt_ro T) b → rd_g nu st b (qt_sp T b) d = true → post 1) (h0 : ¬ (qt_in (qt_rl T) (qt_ro T) b ∧ rd_g nu st b (qt_sp T b) d = true) → post 0) : wpX_isUseful post u (nI d) (nI b) := by
  obtain ⟨f_active, f_epoch, a_dataNodeDown, a_journalDown, a_masterDown, a_inTouch, a_promise, a_base, a_logLength, a_logEpoch, a_logKind, a_logA, a_logB, a_logC, a_inodeState, a_inodePlace, a_inodeClient, a_closeUnits, a_rowLength, a_rowBlock, a_blockStamp, a_replicaHeld, a_replicaStamp, a_unitCount, a_unitValue⟩ := u
  unfold wpX_isUseful
  exact xm_goodNodes (u := (f_active, f_epoch, a_dataNodeDown, a_journalDown, a_masterDown, a_inTouch, a_promise, a_base, a_logLength, a_logEpoch, a_logKind, a_logA, a_logB, a_logC, a_inodeState, a_inodePlace, a_inodeClient, a_closeUnits, a_rowLength, a_rowBlock, a_blockStamp, a_replicaHeld, a_replicaStamp, a_unitCount, a_unitValue)) h hI hD hb hb16 (xm_isInRow (u := (f_active, f_epoch, a_dataNodeDown, a_journalDown, a_masterDown, a_inTouch, a_promise, a_base, a_logLength, a_logEpoch, a_logKind, a_logA, a_logB, a_logC, a_inodeState, a_inodePlace, a_inodeClient, a_closeUnits, a_rowLength, a_rowBlock, a_blockStamp, a_replicaHeld, a_replicaStamp, a_unitCount, a_unitValue)) h hI hb16 (fun z => br_f bo_1 (xm_isIn hd (fun y => br_f bo_1 (h1 z y)) (fun y => br_t rfl (h0 (fun x => absurd (y.symm.trans x.2) (by decide)))))) (fun z => br_t rfl (h0 (fun x => z x.1))))
theorem xm_drop {u : SX} (h : sx_T T u) (hI : qt_iv T) (hL : sx_L (mu, ju, ac, ep, to, pr, ba, le, lg) u) (hD : sx_D (nu, st, un, ua) u) (hb : rd_bd (nu, st, un, ua)) {post : Int32 → SX → Prop} {d : Nat} (hd : d < 5) {keep : Nat → Bool} (hk : ∀ b, keep b = true ↔ qt_in (qt_rl T) (qt_ro T) b ∧ rd_g nu st b (qt_sp T b) d = true)
    (hp : ∀ u', sx_T T u' → sx_L (mu, ju, ac, ep, to, pr, ba, le, lg) u' → sx_D (nu, rd_dr keep d 16 st, un, ua) u' → post (nI (rd_cn (fun b => decide (st (16 * d + b) ≠ 0 ∧ keep b = false)) 16)) u') : wpX_dropUselessReplicas post u (nI d) := by
  obtain ⟨f_active, f_epoch, a_dataNodeDown, a_journalDown, a_masterDown, a_inTouch, a_promise, a_base, a_logLength, a_logEpoch, a_logKind, a_logA, a_logB, a_logC, a_inodeState, a_inodePlace, a_inodeClient, a_closeUnits, a_rowLength, a_rowBlock, a_blockStamp, a_replicaHeld, a_replicaStamp, a_unitCount, a_unitValue⟩ := u
  obtain ⟨l1, l2, l3, l4, l5, l6, l7, l8, l9⟩ := hL
  obtain ⟨d1, d2, d3, d4, d5⟩ := hD
  have h' : qt_ag True T a_inodeState a_inodePlace a_inodeClient a_closeUnits a_rowLength a_rowBlock a_blockStamp := h
  have hst3 : ∀ n c, c < 80 → rd_dr keep d n st c ≠ 0 → a_replicaStamp c = nI (rd_dr keep d n st c - 1) := by
    intro n c hc hz
    have e : rd_dr keep d n st c = st c := by
      unfold rd_dr at hz ⊢
      split
      · rename_i w; rw [if_pos w] at hz; exact absurd rfl hz
      · rfl
    rw [e] at hz ⊢
    exact d3 c hc hz
  have key : ∀ k n b, b + k = 16 → k < n → ∀ aH : Nat → Int32, (∀ c, c < 80 → aH c = if rd_dr keep d b st c = 0 then 0 else 1) → wX_dropUselessReplicas_4 post (nI d) f_active f_epoch n (nI (rd_cn (fun b => decide (st (16 * d + b) ≠ 0 ∧ keep b = false)) b)) (nI b) a_dataNodeDown a_journalDown a_masterDown a_inTouch a_promise a_base a_logLength a_logEpoch a_logKind a_logA a_logB a_logC a_inodeState a_inodePlace a_inodeClient a_closeUnits a_rowLength a_rowBlock a_blockStamp aH a_replicaStamp a_unitCount a_unitValue := by
    intro k
    induction k with
    | zero =>
      intro n b hb' hn aH H
      obtain ⟨n, rfl⟩ : ∃ n', n = n' + 1 := ⟨n - 1, by omega⟩
      have e : b = 16 := by omega
      subst e
      exact br_t lb_t (hp _ h' ⟨l1, l2, l3, l4, l5, l6, l7, l8, l9⟩ ⟨d1, H, hst3 16, d4, d5⟩)
    | succ k ih =>
      intro n b hb' hn aH H
      obtain ⟨n, rfl⟩ : ∃ n', n = n' + 1 := ⟨n - 1, by omega⟩
      have hb16 : b < 16 := by omega
      have hc : 16 * d + b < 80 := by omega
      have hv := vp_in_nI hc (by decide : 80 < 2 ^ 31)
      have hcc : (nI (16 * d + b)).toNatClampNeg = 16 * d + b := nI_clamp (by omega)
      have ecol : ∀ e, e < 5 → rd_dr keep d b st (16 * e + b) = st (16 * e + b) := fun e _ => rd_drN hb16 (Nat.le_refl b)
      have ec : rd_dr keep d b st (16 * d + b) = st (16 * d + b) := ecol d hd
      have skip : ¬ (st (16 * d + b) ≠ 0 ∧ keep b = false) → wX_dropUselessReplicas_4 post (nI d) f_active f_epoch n (nI (rd_cn (fun b => decide (st (16 * d + b) ≠ 0 ∧ keep b = false)) b)) (nI (b + 1)) a_dataNodeDown a_journalDown a_masterDown a_inTouch a_promise a_base a_logLength a_logEpoch a_logKind a_logA a_logB a_logC a_inodeState a_inodePlace a_inodeClient a_closeUnits a_rowLength a_rowBlock a_blockStamp aH a_replicaStamp a_unitCount a_unitValue := by
        intro z
        have := ih n (b + 1) (by omega) (by omega) aH (fun c hc' => by
          have e : rd_dr keep d (b + 1) st c = rd_dr keep d b st c := by
            rw [rd_drS hb16]
            split
            · rename_i w
              rw [w.1, ec]
              by_cases y : st (16 * d + b) = 0
              · exact y.symm
              · exact absurd ⟨y, w.2⟩ z
            · rfl
          rw [e]; exact H c hc')
        rw [rd_cnF (f := fun b => decide (st (16 * d + b) ≠ 0 ∧ keep b = false)) (decide_eq_false z)] at this
        exact this
      have hbd : rd_bd (nu, rd_dr keep d b st, un, ua) := ⟨fun c hc => rd_drB (hb.1 c hc), hb.2⟩
      have hDb : sx_D (nu, rd_dr keep d b st, un, ua) (f_active, f_epoch, a_dataNodeDown, a_journalDown, a_masterDown, a_inTouch, a_promise, a_base, a_logLength, a_logEpoch, a_logKind, a_logA, a_logB, a_logC, a_inodeState, a_inodePlace, a_inodeClient, a_closeUnits, a_rowLength, a_rowBlock, a_blockStamp, aH, a_replicaStamp, a_unitCount, a_unitValue) := ⟨d1, H, hst3 b, d4, d5⟩
      refine br_f (lb_f hb16) (nm_r (mu_r d 16 b) ⟨hv, cd_if (xm_held H hc) (fun z => nm_r (nI_1 b) (skip (fun y => y.1 (by rw [← ec]; exact z)))) (fun z => ?_)⟩)
      rw [ec] at z
      have eg : rd_g nu (rd_dr keep d b st) b (qt_sp T b) d = rd_g nu st b (qt_sp T b) d := rd_gC ecol hd
      refine xm_isUseful (u := (f_active, f_epoch, a_dataNodeDown, a_journalDown, a_masterDown, a_inTouch, a_promise, a_base, a_logLength, a_logEpoch, a_logKind, a_logA, a_logB, a_logC, a_inodeState, a_inodePlace, a_inodeClient, a_closeUnits, a_rowLength, a_rowBlock, a_blockStamp, aH, a_replicaStamp, a_unitCount, a_unitValue)) h' hI hDb hbd hd hb16 (fun y1 y2 => br_f bo_1 (nm_r (nI_1 b) (skip (fun x => ?_)))) (fun y => br_t rfl ⟨hv, nm_e ?_⟩)
      · rw [eg] at y2
        rw [(hk b).mpr ⟨y1, y2⟩] at x
        exact absurd x.2 (by decide)
      · rw [eg] at y
        have kf : keep b = false := by
          cases hh : keep b with
          | false => rfl
          | true => exact absurd ((hk b).mp hh) y
        refine nm_r (rd_cnT (f := fun b => decide (st (16 * d + b) ≠ 0 ∧ keep b = false)) (decide_eq_true ⟨z, kf⟩)) (nm_r (nI_1 b) (ih n (b + 1) (by omega) (by omega) _ (fun c hc' => ?_)))
        rw [hcc, rd_drS hb16]
        by_cases w : c = 16 * d + b
        · subst w
          rw [pk_us, if_pos (c := 16 * d + b = 16 * d + b ∧ keep b = false) ⟨rfl, kf⟩]; rfl
        · rw [pk_un w, if_neg (c := c = 16 * d + b ∧ keep b = false) (fun q => w q.1)]; exact H c hc'
  refine ⟨17, key 16 17 0 (by omega) (by omega) _ (fun c hc => ?_)⟩
  rw [rd_dr0]; exact d2 c hc
end
