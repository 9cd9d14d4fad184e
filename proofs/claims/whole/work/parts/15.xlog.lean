/-! records: the component -/
theorem qt_ag0 {F : Prop} {aS aP aC aW aL aR aT : Nat → Int32} (h12 : ∀ j, j < 12 → aS j = 0 ∧ aP j = -1 ∧ aC j = -1 ∧ aW j = 0 ∧ aL j = 0) (hT : ∀ j, j < 16 → aT j = 0) : qt_ag F qt_t0 (upd aS 0 1) aP aC aW aL aR aT := by
  refine ⟨?_, ?_, ?_, ?_, ?_, ?_, ?_⟩
  · intro i hi
    by_cases z : i = 0
    · subst z; rw [pk_us, qt_us]; rfl
    · rw [pk_un z, (h12 i hi).1, qt_un z]; rfl
  · intro i hi
    rw [(h12 i hi).2.1]; exact qt_m0.symm
  · intro i hi _
    rw [(h12 i hi).2.2.1]; exact qt_m0.symm
  · intro i hi _
    rw [(h12 i hi).2.2.2.1]; rfl
  · intro i hi
    rw [(h12 i hi).2.2.2.2]; rfl
  · intro i k hi hk
    exact absurd hk (Nat.not_lt_zero _)
  · intro b hb _
    rw [hT b hb]; rfl
theorem xm_forget {L : lj_L} {D : rd_D} {u : SX} (hL : sx_L L u) (hD : sx_D D u) {post : SX → Prop} (hp : ∀ u', sx_T qt_t0 u' → sx_L L u' → sx_D D u' → post u') : wpX_forgetInodes post u := by
  obtain ⟨mu, ju, ac, ep, to, pr, ba, le, lg⟩ := L
  obtain ⟨nu, st, un, ua⟩ := D
  obtain ⟨f_active, f_epoch, a_dataNodeDown, a_journalDown, a_masterDown, a_inTouch, a_promise, a_base, a_logLength, a_logEpoch, a_logKind, a_logA, a_logB, a_logC, a_inodeState, a_inodePlace, a_inodeClient, a_closeUnits, a_rowLength, a_rowBlock, a_blockStamp, a_replicaHeld, a_replicaStamp, a_unitCount, a_unitValue⟩ := u
  obtain ⟨l1, l2, l3, l4, l5, l6, l7, l8, l9⟩ := hL
  obtain ⟨d1, d2, d3, d4, d5⟩ := hD
  have p2 : ∀ aS aP aC aW aL : Nat → Int32, (∀ j, j < 12 → aS j = 0 ∧ aP j = -1 ∧ aC j = -1 ∧ aW j = 0 ∧ aL j = 0) → ∀ k n i, i + k = 16 → k < n → ∀ aT : Nat → Int32, (∀ j, j < i → aT j = 0) → wX_forgetInodes_51 post f_active f_epoch n (nI i) a_dataNodeDown a_journalDown a_masterDown a_inTouch a_promise a_base a_logLength a_logEpoch a_logKind a_logA a_logB a_logC aS aP aC aW aL a_rowBlock aT a_replicaHeld a_replicaStamp a_unitCount a_unitValue := by
    intro aS aP aC aW aL h12 k
    induction k with
    | zero =>
      intro n i hi hn aT hT
      obtain ⟨n, rfl⟩ : ∃ n', n = n' + 1 := ⟨n - 1, by omega⟩
      have e : i = 16 := by omega
      subst e
      refine br_t lb_t (nm_e (hp _ (qt_ag0 h12 hT) ⟨l1, l2, l3, l4, l5, l6, l7, l8, l9⟩ ⟨d1, d2, d3, d4, d5⟩))
    | succ k ih =>
      intro n i hi hn aT hT
      obtain ⟨n, rfl⟩ : ∃ n', n = n' + 1 := ⟨n - 1, by omega⟩
      have hi' : i < 16 := by omega
      refine br_f (lb_f hi') ⟨vp_in_nI hi' (by decide), nm_e (nm_r (nI_1 i) (ih n (i + 1) (by omega) (by omega) _ (fun j hj => ?_)))⟩
      rw [nI_clamp (by omega)]
      by_cases z : j = i
      · subst z; exact pk_us
      · rw [pk_un z]; exact hT j (by omega)
  have p1 : ∀ k n i, i + k = 12 → k < n → ∀ aS aP aC aW aL : Nat → Int32, (∀ j, j < i → aS j = 0 ∧ aP j = -1 ∧ aC j = -1 ∧ aW j = 0 ∧ aL j = 0) → wX_forgetInodes_2 post f_active f_epoch n (nI i) a_dataNodeDown a_journalDown a_masterDown a_inTouch a_promise a_base a_logLength a_logEpoch a_logKind a_logA a_logB a_logC aS aP aC aW aL a_rowBlock a_blockStamp a_replicaHeld a_replicaStamp a_unitCount a_unitValue := by
    intro k
    induction k with
    | zero =>
      intro n i hi hn aS aP aC aW aL H
      obtain ⟨n, rfl⟩ : ∃ n', n = n' + 1 := ⟨n - 1, by omega⟩
      have e : i = 12 := by omega
      subst e
      exact br_t lb_t ⟨17, p2 aS aP aC aW aL H 16 17 0 (by omega) (by omega) _ (fun j hj => by omega)⟩
    | succ k ih =>
      intro n i hi hn aS aP aC aW aL H
      obtain ⟨n, rfl⟩ : ∃ n', n = n' + 1 := ⟨n - 1, by omega⟩
      have hi' : i < 12 := by omega
      have hv := vp_in_nI hi' (by decide : 12 < 2 ^ 31)
      refine br_f (lb_f hi') ⟨hv, nm_e ⟨hv, nm_e ⟨hv, nm_e ⟨hv, nm_e ⟨hv, nm_e (nm_r (nI_1 i) (ih n (i + 1) (by omega) (by omega) _ _ _ _ _ (fun j hj => ?_)))⟩⟩⟩⟩⟩
      rw [nI_clamp (by omega)]
      by_cases z : j = i
      · subst z; exact ⟨pk_us, pk_us, pk_us, pk_us, pk_us⟩
      · rw [pk_un z, pk_un z, pk_un z, pk_un z, pk_un z]; exact H j (by omega)
  exact ⟨13, p1 12 13 0 (by omega) (by omega) _ _ _ _ _ (fun j hj => by omega)⟩
section
variable {T : qt_T} {mu ju : Nat → Bool} {ac ep : Nat} {to : Nat → Bool} {pr ba le : Nat → Nat} {lg : Nat → Nat → qt_R} {nu : Nat → Bool} {st un : Nat → Nat} {ua : Nat → Int32}
theorem xm_applyRecord {u : SX} (h : sx_T T u) (hI : qt_iv T) (hL : sx_L (mu, ju, ac, ep, to, pr, ba, le, lg) u) (hD : sx_D (nu, st, un, ua) u) {post : SX → Prop} {j k : Nat} (hj : j < 3) (hk : k < le j) (hk2 : k < 1000) (ho : qt_ok T (lg j k)) (hp : ∀ u', sx_T (qt_ap T (lg j k) k) u' → sx_L (mu, ju, ac, ep, to, pr, ba, le, lg) u' → sx_D (nu, st, un, ua) u' → post u') : wpX_applyRecord post u (nI j) (nI k) := by
  obtain ⟨f_active, f_epoch, a_dataNodeDown, a_journalDown, a_masterDown, a_inTouch, a_promise, a_base, a_logLength, a_logEpoch, a_logKind, a_logA, a_logB, a_logC, a_inodeState, a_inodePlace, a_inodeClient, a_closeUnits, a_rowLength, a_rowBlock, a_blockStamp, a_replicaHeld, a_replicaStamp, a_unitCount, a_unitValue⟩ := u
  obtain ⟨so, pl, cl, cw, rl, ro, sp⟩ := T
  obtain ⟨l1, l2, l3, l4, l5, l6, l7, l8, l9⟩ := hL
  obtain ⟨d1, d2, d3, d4, d5⟩ := hD
  obtain ⟨c1, c2, c3, c4, c5⟩ := l9 j k hj hk
  have hB := qt_okB ho
  generalize lg j k = r at c1 c2 c3 c4 c5 ho hp hB
  obtain ⟨e, q, a, b, c⟩ := r
  obtain ⟨hB1, hB2, hB3, hB4, hB5⟩ := hB
  dsimp only at c1 c2 c3 c4 c5 hB1 hB2 hB3 hB4 hB5
  have hcell : 1000 * j + k < 3000 := by omega
  have hv := vp_in_nI hcell (by decide : 3000 < 2 ^ 31)
  have hcl : (nI (1000 * j + k)).toNatClampNeg = 1000 * j + k := nI_clamp (by omega)
  have h3 := qt_iv3 hI
  have h4 := qt_iv4 hI
  dsimp only [qt_so, qt_rl] at h3 h4
  refine nm_r (mu_r j 1000 k) ?_
  rw [hcl, c1, c2, c3, c4, c5]
  refine ⟨hv, nm_e ⟨hv, nm_e ⟨hv, nm_r (mu_l e 2048 k) ⟨hv, nm_e ?_⟩⟩⟩⟩
  obtain ⟨_, ho⟩ := ho
  rcases ho with ⟨rfl, g1, g2, g3, g4, g5, g6⟩ | ⟨rfl, g1, g2, g3, g4, g5⟩ | ⟨rfl, g1, g2, g3⟩ | ⟨rfl, g1, g2, g3, g4⟩ | ⟨rfl, g1, g2, g3, g4, g5⟩ | ⟨rfl, g1, g2, g3, g4, g5, g6, g7⟩
  · have hva := vp_in_nI g2 (by decide : 12 < 2 ^ 31)
    have hca : (nI a).toNatClampNeg = a := nI_clamp (by omega)
    refine br_f (by decide) (br_f (by decide) (br_t rfl ⟨hv, ?_⟩))
    refine cd_if (qt_m0E (by omega)) (fun z => ?_) (fun z => ?_)
    · refine ⟨hva, nm_e ⟨hva, nm_e ⟨hva, nm_e ⟨hva, nm_e ⟨hva, nm_e ?_⟩⟩⟩⟩⟩
      rw [hca]
      exact hp _ (qt_agMake (e := e) (k := k) h (by rw [if_pos z]; rfl) rfl rfl (fun i hi => pk_un hi)) ⟨l1, l2, l3, l4, l5, l6, l7, l8, l9⟩ ⟨d1, d2, d3, d4, d5⟩
    · refine ⟨hva, nm_e ⟨hva, nm_e ⟨hva, nm_e ⟨hva, nm_e ⟨hva, nm_e ?_⟩⟩⟩⟩⟩
      rw [hca]
      exact hp _ (qt_agMake (e := e) (k := k) h (by rw [if_neg z]; rfl) rfl rfl (fun i hi => pk_un hi)) ⟨l1, l2, l3, l4, l5, l6, l7, l8, l9⟩ ⟨d1, d2, d3, d4, d5⟩
  · have hva := vp_in_nI g1 (by decide : 12 < 2 ^ 31)
    have hca : (nI a).toNatClampNeg = a := nI_clamp (by omega)
    have hcb : (nI b).toNatClampNeg = b := nI_clamp (by omega)
    have hr : a_rowLength a = nI (rl a) := h.2.2.2.2.1 a g1
    have hix : nI a * 3 + nI (rl a) = nI (3 * a + rl a) := mu_r a 3 (rl a)
    refine br_f (by decide) (br_f (by decide) (br_f (by decide) (br_t rfl ?_)))
    refine ⟨hva, ?_⟩
    rw [hca, hr, hix, hcb, nI_1, show (nI (3 * a + rl a)).toNatClampNeg = 3 * a + rl a from nI_clamp (by omega)]
    exact br_f (lb_f g3) ⟨hva, vp_in_nI (by omega) (by decide), nm_e ⟨hva, hva, nm_e ⟨vp_in_nI g4 (by decide), nm_e (hp _ (qt_agBlock (e := e) (c := c) (k := k) h rfl rfl rfl h4 g3) ⟨l1, l2, l3, l4, l5, l6, l7, l8, l9⟩ ⟨d1, d2, d3, d4, d5⟩)⟩⟩⟩
  · have hca : (nI a).toNatClampNeg = a := nI_clamp (by omega)
    refine br_f (by decide) (br_f (by decide) (br_f (by decide) (br_f (by decide) (br_t rfl ⟨vp_in_nI g1 (by decide), nm_e ?_⟩))))
    rw [hca]
    exact hp _ (qt_agStamp (e := e) (b := b) (c := c) (k := k) h rfl) ⟨l1, l2, l3, l4, l5, l6, l7, l8, l9⟩ ⟨d1, d2, d3, d4, d5⟩
  · have hva := vp_in_nI g1 (by decide : 12 < 2 ^ 31)
    have hca : (nI a).toNatClampNeg = a := nI_clamp (by omega)
    have hr : a_rowLength a = nI (rl a) := h.2.2.2.2.1 a g1
    have hra := h4 a g1
    refine br_f (by decide) (br_f (by decide) (br_f (by decide) (br_f (by decide) (br_f (by decide) (br_t rfl ?_)))))
    refine ⟨hva, nm_e ⟨hva, nm_e ?_⟩⟩
    rw [hca, hr]
    refine cd_if (nI_eq (b := 0) (by omega) (by decide)) (fun z => ⟨hva, cd_if (nI_leI (b := 0) (by omega) (by decide)) (fun y => hp _ (qt_agClose (e := e) (c := c) (k := k) h rfl (fun i hi => ?_)) ⟨l1, l2, l3, l4, l5, l6, l7, l8, l9⟩ ⟨d1, d2, d3, d4, d5⟩) (fun y => ⟨hva, hva, nm_e (hp _ (qt_agClose (e := e) (c := c) (k := k) h rfl (fun i hi => ?_)) ⟨l1, l2, l3, l4, l5, l6, l7, l8, l9⟩ ⟨d1, d2, d3, d4, d5⟩)⟩)⟩) (fun z => hp _ (qt_agClose (e := e) (c := c) (k := k) h rfl (fun i hi => ?_)) ⟨l1, l2, l3, l4, l5, l6, l7, l8, l9⟩ ⟨d1, d2, d3, d4, d5⟩)
    · rw [if_pos z]
      by_cases w : i = a
      · subst w; rw [qt_us, hr]; congr 1; omega
      · rw [qt_un w]; exact h.2.2.2.2.1 i hi
    · rw [if_pos z]
      by_cases w : i = a
      · subst w
        rw [pk_us, qt_us]
        obtain ⟨x, hx⟩ : ∃ x, rl i = x + 1 := ⟨rl i - 1, by omega⟩
        rw [hx, nI_pred]; rfl
      · rw [pk_un w, qt_un w]; exact h.2.2.2.2.1 i hi
    · rw [if_neg z]; exact h.2.2.2.2.1 i hi
  · have hva := vp_in_nI g2 (by decide : 12 < 2 ^ 31)
    have hca : (nI a).toNatClampNeg = a := nI_clamp (by omega)
    refine br_f (by decide) (br_f (by decide) (br_f (by decide) (br_f (by decide) (br_f (by decide) (br_f (by decide) (br_t rfl ?_))))))
    refine ⟨hva, nm_e ⟨hva, nm_e ?_⟩⟩
    rw [hca]
    exact hp _ (qt_agRemove (e := e) (b := b) (c := c) (k := k) h) ⟨l1, l2, l3, l4, l5, l6, l7, l8, l9⟩ ⟨d1, d2, d3, d4, d5⟩
  · have hva := vp_in_nI g2 (by decide : 12 < 2 ^ 31)
    have hca : (nI a).toNatClampNeg = a := nI_clamp (by omega)
    refine br_f (by decide) (br_f (by decide) (br_f (by decide) (br_f (by decide) (br_f (by decide) (br_f (by decide) (br_f (by decide) (br_t rfl ⟨hva, nm_e ?_⟩)))))))
    rw [hca]
    exact hp _ (qt_agMove (e := e) (c := c) (k := k) h rfl) ⟨l1, l2, l3, l4, l5, l6, l7, l8, l9⟩ ⟨d1, d2, d3, d4, d5⟩
theorem xm_replayLog {u : SX} (hL : sx_L (mu, ju, ac, ep, to, pr, ba, le, lg) u) (hD : sx_D (nu, st, un, ua) u) {post : SX → Prop} {j : Nat} (hj : j < 3) (hl : le j ≤ 1000) (hw : qt_wf (lg j) (le j)) (hp : ∀ u', sx_T (qt_ab (lg j) (le j)) u' → sx_L (mu, ju, ac, ep, to, pr, ba, le, lg) u' → sx_D (nu, st, un, ua) u' → post u') : wpX_replayLog post u (nI j) := by
  obtain ⟨f_active, f_epoch, a_dataNodeDown, a_journalDown, a_masterDown, a_inTouch, a_promise, a_base, a_logLength, a_logEpoch, a_logKind, a_logA, a_logB, a_logC, a_inodeState, a_inodePlace, a_inodeClient, a_closeUnits, a_rowLength, a_rowBlock, a_blockStamp, a_replicaHeld, a_replicaStamp, a_unitCount, a_unitValue⟩ := u
  unfold wpX_replayLog
  refine xm_forget (u := (f_active, f_epoch, a_dataNodeDown, a_journalDown, a_masterDown, a_inTouch, a_promise, a_base, a_logLength, a_logEpoch, a_logKind, a_logA, a_logB, a_logC, a_inodeState, a_inodePlace, a_inodeClient, a_closeUnits, a_rowLength, a_rowBlock, a_blockStamp, a_replicaHeld, a_replicaStamp, a_unitCount, a_unitValue)) hL hD ?_
  rintro ⟨f_active, f_epoch, a_dataNodeDown, a_journalDown, a_masterDown, a_inTouch, a_promise, a_base, a_logLength, a_logEpoch, a_logKind, a_logA, a_logB, a_logC, a_inodeState, a_inodePlace, a_inodeClient, a_closeUnits, a_rowLength, a_rowBlock, a_blockStamp, a_replicaHeld, a_replicaStamp, a_unitCount, a_unitValue⟩ hT hL hD
  have key : ∀ m n k, k + m = le j → m < n → ∀ f_active f_epoch a_dataNodeDown a_journalDown a_masterDown a_inTouch a_promise a_base a_logLength a_logEpoch a_logKind a_logA a_logB a_logC a_inodeState a_inodePlace a_inodeClient a_closeUnits a_rowLength a_rowBlock a_blockStamp a_replicaHeld a_replicaStamp a_unitCount a_unitValue, sx_T (qt_ab (lg j) k) (f_active, f_epoch, a_dataNodeDown, a_journalDown, a_masterDown, a_inTouch, a_promise, a_base, a_logLength, a_logEpoch, a_logKind, a_logA, a_logB, a_logC, a_inodeState, a_inodePlace, a_inodeClient, a_closeUnits, a_rowLength, a_rowBlock, a_blockStamp, a_replicaHeld, a_replicaStamp, a_unitCount, a_unitValue) → sx_L (mu, ju, ac, ep, to, pr, ba, le, lg) (f_active, f_epoch, a_dataNodeDown, a_journalDown, a_masterDown, a_inTouch, a_promise, a_base, a_logLength, a_logEpoch, a_logKind, a_logA, a_logB, a_logC, a_inodeState, a_inodePlace, a_inodeClient, a_closeUnits, a_rowLength, a_rowBlock, a_blockStamp, a_replicaHeld, a_replicaStamp, a_unitCount, a_unitValue) → sx_D (nu, st, un, ua) (f_active, f_epoch, a_dataNodeDown, a_journalDown, a_masterDown, a_inTouch, a_promise, a_base, a_logLength, a_logEpoch, a_logKind, a_logA, a_logB, a_logC, a_inodeState, a_inodePlace, a_inodeClient, a_closeUnits, a_rowLength, a_rowBlock, a_blockStamp, a_replicaHeld, a_replicaStamp, a_unitCount, a_unitValue) → wX_replayLog_13 post (nI j) (nI (le j)) n (nI k) f_active f_epoch a_dataNodeDown a_journalDown a_masterDown a_inTouch a_promise a_base a_logLength a_logEpoch a_logKind a_logA a_logB a_logC a_inodeState a_inodePlace a_inodeClient a_closeUnits a_rowLength a_rowBlock a_blockStamp a_replicaHeld a_replicaStamp a_unitCount a_unitValue := by
    intro m
    induction m with
    | zero =>
      intro n k hk hn f_active f_epoch a_dataNodeDown a_journalDown a_masterDown a_inTouch a_promise a_base a_logLength a_logEpoch a_logKind a_logA a_logB a_logC a_inodeState a_inodePlace a_inodeClient a_closeUnits a_rowLength a_rowBlock a_blockStamp a_replicaHeld a_replicaStamp a_unitCount a_unitValue hT hL hD
      obtain ⟨n, rfl⟩ : ∃ n', n = n' + 1 := ⟨n - 1, by omega⟩
      have e : k = le j := by omega
      subst e
      exact br_t lb_t (hp _ hT hL hD)
    | succ m ih =>
      intro n k hk hn f_active f_epoch a_dataNodeDown a_journalDown a_masterDown a_inTouch a_promise a_base a_logLength a_logEpoch a_logKind a_logA a_logB a_logC a_inodeState a_inodePlace a_inodeClient a_closeUnits a_rowLength a_rowBlock a_blockStamp a_replicaHeld a_replicaStamp a_unitCount a_unitValue hT hL hD
      obtain ⟨n, rfl⟩ : ∃ n', n = n' + 1 := ⟨n - 1, by omega⟩
      refine br_f (lb_f (by omega) (by omega)) (xm_applyRecord (u := (f_active, f_epoch, a_dataNodeDown, a_journalDown, a_masterDown, a_inTouch, a_promise, a_base, a_logLength, a_logEpoch, a_logKind, a_logA, a_logB, a_logC, a_inodeState, a_inodePlace, a_inodeClient, a_closeUnits, a_rowLength, a_rowBlock, a_blockStamp, a_replicaHeld, a_replicaStamp, a_unitCount, a_unitValue)) hT (qt_ivAb (fun i hi => hw i (by omega)) (by omega)) hL hD hj (by omega) (by omega) (hw k (by omega)) ?_)
      rintro ⟨f_active, f_epoch, a_dataNodeDown, a_journalDown, a_masterDown, a_inTouch, a_promise, a_base, a_logLength, a_logEpoch, a_logKind, a_logA, a_logB, a_logC, a_inodeState, a_inodePlace, a_inodeClient, a_closeUnits, a_rowLength, a_rowBlock, a_blockStamp, a_replicaHeld, a_replicaStamp, a_unitCount, a_unitValue⟩ hT hL hD
      exact nm_r (nI_1 k) (ih n (k + 1) (by omega) (by omega) _ _ _ _ _ _ _ _ _ _ _ _ _ _ _ _ _ _ _ _ _ _ _ _ _ hT hL hD)
  exact ⟨vp_in_nI hj (by decide), nm_r (e' := nI (le j)) (by rw [nI_clamp (by omega)]; exact hL.2.2.2.2.2.2.2.1 j hj) ⟨le j + 1, key (le j) (le j + 1) 0 (by omega) (by omega) _ _ _ _ _ _ _ _ _ _ _ _ _ _ _ _ _ _ _ _ _ _ _ _ _ hT hL hD⟩⟩
end
