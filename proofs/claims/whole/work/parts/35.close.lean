/-! close -/
theorem rd_fwA {f : Nat → Bool} {un : Nat → Nat} {b : Nat} : ∀ {n : Nat}, 0 < rd_fw f un b n → ∃ d, d < n ∧ f d = true ∧ rd_fw f un b n = un (16 * d + b) + 1 := by
  intro n
  induction n with
  | zero => intro h; exact absurd h (Nat.not_lt_zero _)
  | succ n ih =>
    rw [rd_fwS]
    split
    · rename_i h
      intro _
      exact ⟨n, by omega, h.1, rfl⟩
    · intro h
      obtain ⟨d, h1, h2, h3⟩ := ih h
      exact ⟨d, by omega, h2, h3⟩
theorem rd_fwK {f : Nat → Bool} {un : Nat → Nat} {b l : Nat} (h : ∀ d, d < 5 → f d = true → un (16 * d + b) = l) (hx : ∃ d, d < 5 ∧ f d = true) : rd_fw f un b 5 = l + 1 := by
  obtain ⟨d, hd, hf⟩ := hx
  obtain ⟨e, he, hfe, hw⟩ := rd_fwA (un := un) (b := b) (rd_fwL hd hf).1
  rw [hw, h e he hfe]
theorem qt_ap2 {T : qt_T} {e a b c k : Nat} : qt_so (qt_ap T (e, 2, a, b, c) k) = qt_so T ∧ qt_rl (qt_ap T (e, 2, a, b, c) k) = qt_rl T ∧ qt_ro (qt_ap T (e, 2, a, b, c) k) = qt_ro T ∧ qt_sp (qt_ap T (e, 2, a, b, c) k) = qt_u (qt_sp T) a (2048 * e + k) := by
  obtain ⟨so, pl, cl, cw, rl, ro, sp⟩ := T
  exact ⟨rfl, rfl, rfl, rfl⟩
def oc (k : Nat) (T : qt_T) (L : lj_L) (D : rd_D) (X : (Int32 → SX → Prop) → SX → Prop) (Y : (Int32 → SY → Prop) → SY → Prop) : Prop :=
  ∃ (r : Int32) (T' : qt_T) (L' : lj_L) (D' : rd_D), qt_iv T' ∧ lj_iv k L' T' ∧ rd_iv L' D'
    ∧ (∀ post u, sx_T T u → sx_L L u → sx_D D u → (∀ u', sx_T T' u' → sx_L L' u' → sx_D D' u' → post r u') → X post u)
    ∧ (∀ post v, sy_T T v → sy_L L v → sy_D D v → (∀ v', sy_L L' v' → sy_D D' v' → post r v') → Y post v)
theorem oc_c {k : Nat} {T : qt_T} {L : lj_L} {D : rd_D} {X X' : (Int32 → SX → Prop) → SX → Prop} {Y Y' : (Int32 → SY → Prop) → SY → Prop} (h : oc k T L D X Y) (hX : ∀ post u, sx_T T u → sx_L L u → sx_D D u → X post u → X' post u) (hY : ∀ post v, sy_T T v → sy_L L v → sy_D D v → Y post v → Y' post v) : oc k T L D X' Y' := by
  obtain ⟨r, T', L', D', a1, a2, a3, a4, a5⟩ := h
  exact ⟨r, T', L', D', a1, a2, a3, fun post u b1 b2 b3 b4 => hX post u b1 b2 b3 (a4 post u b1 b2 b3 b4), fun post v b1 b2 b3 b4 => hY post v b1 b2 b3 (a5 post v b1 b2 b3 b4)⟩
/-- nothing changes -/
theorem oc_n {k : Nat} {T : qt_T} {L : lj_L} {D : rd_D} {X : (Int32 → SX → Prop) → SX → Prop} {Y : (Int32 → SY → Prop) → SY → Prop} (r : Int32) (hI : qt_iv T) (hiv : lj_iv k L T) (hD : rd_iv L D) (hX : ∀ post u, sx_T T u → sx_L L u → sx_D D u → post r u → X post u) (hY : ∀ post v, sy_T T v → sy_L L v → sy_D D v → post r v → Y post v) : oc k T L D X Y :=
  ⟨r, T, L, D, hI, hiv, hD, fun post u b1 b2 b3 b4 => hX post u b1 b2 b3 (b4 u b1 b2 b3), fun post v b1 b2 b3 b4 => hY post v b1 b2 b3 (b4 v b2 b3)⟩
theorem xm_lackG {k : Nat} {T : qt_T} {L : lj_L} {u : SX} (hL : sx_L L u) (hiv : lj_iv k L T) {post : Int32 → Prop} {R : Nat} (hR : R ≤ 2) (h1 : ¬ lj_rm L R → post 1) (h0 : lj_rm L R → post 0) : wpX_logsLackRoom post u (nI R) := by
  obtain ⟨mu, ju, ac, ep, to, pr, ba, le, lg⟩ := L
  exact xm_logsLackRoom hL (fun j hj => ⟨(hiv.2.2.2.2.1 j hj).2.1, (hiv.2.2.2.2.1 j hj).2.2.2⟩) hR h1 h0
theorem ym_manyG {k : Nat} {T : qt_T} {L : lj_L} {v : SY} (hL : sy_L L v) (hiv : lj_iv k L T) {post : Int32 → Prop} {R : Nat} (hR : R ≤ 2) (h1 : ¬ lj_rm L R → post 1) (h0 : lj_rm L R → post 0) : wpY_tooMany post v (nI R) := by
  obtain ⟨mu, ju, ac, ep, to, pr, ba, le, lg⟩ := L
  exact ym_tooMany hL (fun j hj => ⟨(hiv.2.2.2.2.1 j hj).2.1, (hiv.2.2.2.2.1 j hj).2.2.2⟩) hR h1 h0
theorem xm_writeG {k : Nat} {T : qt_T} {L : lj_L} {D : rd_D} {u : SX} (h : sx_T T u) (hI : qt_iv T) (hL : sx_L L u) (hD : sx_D D u) (hac : 0 < lj_ac L) (hiv : lj_iv k L T) (hrm : lj_rm L 1) {q a b : Nat} (ho : qt_ok T (lj_ep L, q, a, b, 1)) {post : Int32 → SX → Prop}
    (h1 : lj_kept L = true → ∀ u', sx_T (qt_ap T (lj_ep L, q, a, b, 1) (lj_len L)) u' → sx_L (lj_wr L q a b 1) u' → sx_D D u' → post 1 u')
    (h0 : lj_kept L = false → ∀ u', sx_T T u' → sx_L (lj_wr L q a b 1) u' → sx_D D u' → post 0 u') : wpX_writeRecord post u (nI q) (nI a) (nI b) 0 := by
  obtain ⟨mu, ju, ac, ep, to, pr, ba, le, lg⟩ := L
  obtain ⟨nu, st, un, ua⟩ := D
  exact xm_writeRecord1 h hI hL hD hac hiv hrm ho h1 h0
theorem ym_writeG {k : Nat} {T : qt_T} {L : lj_L} {D : rd_D} {v : SY} (hL : sy_L L v) (hD : sy_D D v) (hiv : lj_iv k L T) {q a b : Nat} (ho : qt_ok T (lj_ep L, q, a, b, 1)) {post : Int32 → SY → Prop}
    (h1 : lj_kept L = true → ∀ v', sy_L (lj_wr L q a b 1) v' → sy_D D v' → post 1 v')
    (h0 : lj_kept L = false → ∀ v', sy_L (lj_wr L q a b 1) v' → sy_D D v' → post 0 v') : wpY_write post v (nI q) (nI a) (nI b) 0 := by
  obtain ⟨mu, ju, ac, ep, to, pr, ba, le, lg⟩ := L
  obtain ⟨nu, st, un, ua⟩ := D
  exact ym_write1 hL hD (fun j hj => (hiv.2.2.2.2.1 j hj).2.2.2) (qt_okB ho) h1 h0
theorem xm_renewG {k : Nat} {T : qt_T} {L : lj_L} {nu : Nat → Bool} {st un : Nat → Nat} {ua : Nat → Int32} {u : SX} (h : sx_T T u) (hI : qt_iv T) (hL : sx_L L u) (hD : sx_D (nu, st, un, ua) u) (hb : rd_bd (nu, st, un, ua)) (hac : 0 < lj_ac L) (hiv : lj_iv k L T) (he : lj_ep L ≤ 512) (hrm : lj_rm L 1) {post : Int32 → SX → Prop} {b l : Nat} (hb16 : b < 16) (hfw : rd_fw (rd_g nu st b (qt_sp T b)) un b 5 = l + 1)
    (h1 : lj_kept L = true → ∀ u', sx_T (qt_ap T (lj_ep L, 2, b, 0, 1) (lj_len L)) u' → sx_L (lj_wr L 2 b 0 1) u' → sx_D (rd_rn (nu, st, un, ua) (rd_g nu st b (qt_sp T b)) b (2048 * lj_ep L + lj_len L) l) u' → post 1 u')
    (h0 : lj_kept L = false → ∀ u', sx_T T u' → sx_L (lj_wr L 2 b 0 1) u' → sx_D (rd_rn (nu, st, un, ua) (rd_g nu st b (qt_sp T b)) b (2048 * lj_ep L + lj_len L) l) u' → post 0 u') : wpX_renewBlock post u (nI b) := by
  obtain ⟨mu, ju, ac, ep, to, pr, ba, le, lg⟩ := L
  exact xm_renew h hI hL hD hb hac hiv he hrm hb16 hfw h1 h0
theorem ym_renewG {k : Nat} {T : qt_T} {L : lj_L} {nu : Nat → Bool} {st un : Nat → Nat} {ua : Nat → Int32} {v : SY} (h : sy_T T v) (hI : qt_iv T) (hL : sy_L L v) (hD : sy_D (nu, st, un, ua) v) (hb : rd_bd (nu, st, un, ua)) (hac : 0 < lj_ac L) (hiv : lj_iv k L T) (he : lj_ep L ≤ 512) (hrm : lj_rm L 1) {post : Int32 → SY → Prop} {b l : Nat} (hb16 : b < 16) (hin : qt_in (qt_rl T) (qt_ro T) b) (hfw : rd_fw (rd_g nu st b (qt_sp T b)) un b 5 = l + 1)
    (h1 : lj_kept L = true → ∀ v', sy_T (qt_ap T (lj_ep L, 2, b, 0, 1) (lj_len L)) v' → sy_L (lj_wr L 2 b 0 1) v' → sy_D (rd_rn (nu, st, un, ua) (rd_g nu st b (qt_sp T b)) b (2048 * lj_ep L + lj_len L) l) v' → post 1 v')
    (h0 : lj_kept L = false → ∀ v', sy_L (lj_wr L 2 b 0 1) v' → sy_D (rd_rn (nu, st, un, ua) (rd_g nu st b (qt_sp T b)) b (2048 * lj_ep L + lj_len L) l) v' → post 0 v') : wpY_renew post v (nI b) := by
  obtain ⟨mu, ju, ac, ep, to, pr, ba, le, lg⟩ := L
  exact ym_renew h hI hL hD hb hac hiv he hrm hb16 hin hfw h1 h0
/-- what a renewal leaves behind -/
theorem rd_rnG {k : Nat} {T : qt_T} {L : lj_L} {nu : Nat → Bool} {st un : Nat → Nat} {ua : Nat → Int32} (hI : qt_iv T) (hiv : lj_iv k L T) (hD : rd_iv L (nu, st, un, ua)) (hac : 0 < lj_ac L) (he : lj_ep L ≤ 512) (hrm : lj_rm L 1) {b l : Nat} (hb16 : b < 16) (hl : l ≤ 8) (hx : ∃ d, d < 5 ∧ rd_g nu st b (qt_sp T b) d = true) :
    (∀ c, c < 80 → rd_set (2048 * lj_ep L + lj_len L + 1) (rd_g nu st b (qt_sp T b)) b st c ≤ 2048 * lj_ep L + lj_len L + 1) ∧ (∀ c, c < 80 → rd_set l (rd_g nu st b (qt_sp T b)) b un c ≤ 8)
    ∧ (∀ d, d < 5 → rd_g nu (rd_set (2048 * lj_ep L + lj_len L + 1) (rd_g nu st b (qt_sp T b)) b st) b (2048 * lj_ep L + lj_len L) d = rd_g nu st b (qt_sp T b) d)
    ∧ (∀ d, d < 5 → rd_g nu st b (qt_sp T b) d = true → rd_set l (rd_g nu st b (qt_sp T b)) b un (16 * d + b) = l) := by
  have hs := rd_ivS hD hac
  refine ⟨fun c hc => rd_setB (Nat.le_refl _) (by have := hs c hc; omega), fun c hc => rd_setB hl (hD.2 c hc), ?_, ?_⟩
  · exact rd_new hb16 hs (fun d _ hg => (rd_gI.mp hg).2.1) hx (fun d _ => rd_setA hb16)
  · intro d _ hg
    rw [rd_setA hb16, if_pos hg]
theorem cl_end {k : Nat} {T : qt_T} {L : lj_L} {nu : Nat → Bool} {st un : Nat → Nat} {ua : Nat → Int32} {n l : Nat} (hI : qt_iv T) (hiv : lj_iv k L T) (hst : ∀ c, c < 80 → st c ≤ 2048 * lj_ep L + lj_len L + 1) (hun : ∀ c, c < 80 → un c ≤ 8) (hac : 0 < lj_ac L) (he : lj_ep L ≤ 512) (hrm : lj_rm L 1) (hn : n < 12) (hs : qt_so T n = 2) (hl : l ≤ 8) :
    oc k T L (nu, st, un, ua) (fun post u => match u with | (f_active, f_epoch, a_dataNodeDown, a_journalDown, a_masterDown, a_inTouch, a_promise, a_base, a_logLength, a_logEpoch, a_logKind, a_logA, a_logB, a_logC, a_inodeState, a_inodePlace, a_inodeClient, a_closeUnits, a_rowLength, a_rowBlock, a_blockStamp, a_replicaHeld, a_replicaStamp, a_unitCount, a_unitValue) => wX_close_135 post (nI n) (nI l) f_active f_epoch a_dataNodeDown a_journalDown a_masterDown a_inTouch a_promise a_base a_logLength a_logEpoch a_logKind a_logA a_logB a_logC a_inodeState a_inodePlace a_inodeClient a_closeUnits a_rowLength a_rowBlock a_blockStamp a_replicaHeld a_replicaStamp a_unitCount a_unitValue) (fun post v => match v with | (f_active, f_epoch, a_nodeUp, a_journalUp, a_masterUp, a_touch, a_log, a_many, a_promise, a_base, a_stamp, a_units, a_unit, a_sort, a_placeOf, a_client, a_rowLength, a_row, a_closedWith, a_stampOf) => wY_close_156 post (nI n) (nI l) f_active f_epoch a_nodeUp a_journalUp a_masterUp a_touch a_log a_many a_promise a_base a_stamp a_units a_unit a_sort a_placeOf a_client a_rowLength a_row a_closedWith a_stampOf) := by
  have ho : qt_ok T (lj_ep L, 3, n, l, 1) := ⟨he, Or.inr (Or.inr (Or.inr (Or.inl ⟨rfl, hn, hs, hl, rfl⟩)))⟩
  have W := lj_wrI hiv hac hrm ho
  have hlen := lj_rmL hiv hac hrm
  have hR : rd_iv (lj_wr L 3 n l 1) (nu, st, un, ua) := rd_wrI hiv hac hst hun
  cases hk : lj_kept L with
  | true =>
    rw [if_pos hk] at W
    refine ⟨0, _, _, _, qt_ivAp hI ho (by omega), W, hR, ?_, ?_⟩
    · rintro post ⟨f_active, f_epoch, a_dataNodeDown, a_journalDown, a_masterDown, a_inTouch, a_promise, a_base, a_logLength, a_logEpoch, a_logKind, a_logA, a_logB, a_logC, a_inodeState, a_inodePlace, a_inodeClient, a_closeUnits, a_rowLength, a_rowBlock, a_blockStamp, a_replicaHeld, a_replicaStamp, a_unitCount, a_unitValue⟩ h1 h2 h3 hp
      refine xm_writeG (q := 3) h1 hI h2 h3 hac hiv hrm ho (fun _ => ?_) (fun z => absurd (hk.symm.trans z) (by decide))
      rintro ⟨f_active, f_epoch, a_dataNodeDown, a_journalDown, a_masterDown, a_inTouch, a_promise, a_base, a_logLength, a_logEpoch, a_logKind, a_logA, a_logB, a_logC, a_inodeState, a_inodePlace, a_inodeClient, a_closeUnits, a_rowLength, a_rowBlock, a_blockStamp, a_replicaHeld, a_replicaStamp, a_unitCount, a_unitValue⟩ g1 g2 g3
      exact br_f bo_1 (hp _ g1 g2 g3)
    · rintro post ⟨f_active, f_epoch, a_nodeUp, a_journalUp, a_masterUp, a_touch, a_log, a_many, a_promise, a_base, a_stamp, a_units, a_unit, a_sort, a_placeOf, a_client, a_rowLength, a_row, a_closedWith, a_stampOf⟩ h1 h2 h3 hp
      refine ym_writeG (q := 3) h2 h3 hiv ho (fun _ => ?_) (fun z => absurd (hk.symm.trans z) (by decide))
      rintro ⟨f_active, f_epoch, a_nodeUp, a_journalUp, a_masterUp, a_touch, a_log, a_many, a_promise, a_base, a_stamp, a_units, a_unit, a_sort, a_placeOf, a_client, a_rowLength, a_row, a_closedWith, a_stampOf⟩ g2 g3
      exact br_f bo_1 (hp _ g2 g3)
  | false =>
    rw [if_neg (by rw [hk]; decide)] at W
    refine ⟨-3, _, _, _, hI, W, hR, ?_, ?_⟩
    · rintro post ⟨f_active, f_epoch, a_dataNodeDown, a_journalDown, a_masterDown, a_inTouch, a_promise, a_base, a_logLength, a_logEpoch, a_logKind, a_logA, a_logB, a_logC, a_inodeState, a_inodePlace, a_inodeClient, a_closeUnits, a_rowLength, a_rowBlock, a_blockStamp, a_replicaHeld, a_replicaStamp, a_unitCount, a_unitValue⟩ h1 h2 h3 hp
      refine xm_writeG (q := 3) h1 hI h2 h3 hac hiv hrm ho (fun z => absurd (hk.symm.trans z) (by decide)) (fun _ => ?_)
      rintro ⟨f_active, f_epoch, a_dataNodeDown, a_journalDown, a_masterDown, a_inTouch, a_promise, a_base, a_logLength, a_logEpoch, a_logKind, a_logA, a_logB, a_logC, a_inodeState, a_inodePlace, a_inodeClient, a_closeUnits, a_rowLength, a_rowBlock, a_blockStamp, a_replicaHeld, a_replicaStamp, a_unitCount, a_unitValue⟩ g1 g2 g3
      exact br_t rfl (hp _ g1 g2 g3)
    · rintro post ⟨f_active, f_epoch, a_nodeUp, a_journalUp, a_masterUp, a_touch, a_log, a_many, a_promise, a_base, a_stamp, a_units, a_unit, a_sort, a_placeOf, a_client, a_rowLength, a_row, a_closedWith, a_stampOf⟩ h1 h2 h3 hp
      refine ym_writeG (q := 3) h2 h3 hiv ho (fun z => absurd (hk.symm.trans z) (by decide)) (fun _ => ?_)
      rintro ⟨f_active, f_epoch, a_nodeUp, a_journalUp, a_masterUp, a_touch, a_log, a_many, a_promise, a_base, a_stamp, a_units, a_unit, a_sort, a_placeOf, a_client, a_rowLength, a_row, a_closedWith, a_stampOf⟩ g2 g3
      exact br_t rfl (hp _ g2 g3)
theorem cl_mid0 {k : Nat} {T : qt_T} {L : lj_L} {nu : Nat → Bool} {st un : Nat → Nat} {ua : Nat → Int32} {n l : Nat} {x3 : Int32} (hI : qt_iv T) (hiv : lj_iv k L T) (hD : rd_iv L (nu, st, un, ua)) (hb : rd_bd (nu, st, un, ua)) (hac : 0 < lj_ac L) (he : lj_ep L ≤ 512) (hn : n < 12) (hs : qt_so T n = 2) (hl : l ≤ 8) (hx : (x3 = -1 ∧ l = 0) ∨ ∃ b, b < 16 ∧ x3 = nI b ∧ rd_fw (rd_g nu st b (qt_sp T b)) un b 5 = l + 1) :
    oc k T L (nu, st, un, ua) (fun post u => match u with | (f_active, f_epoch, a_dataNodeDown, a_journalDown, a_masterDown, a_inTouch, a_promise, a_base, a_logLength, a_logEpoch, a_logKind, a_logA, a_logB, a_logC, a_inodeState, a_inodePlace, a_inodeClient, a_closeUnits, a_rowLength, a_rowBlock, a_blockStamp, a_replicaHeld, a_replicaStamp, a_unitCount, a_unitValue) => wX_close_85 post (nI n) x3 0 f_active f_epoch a_dataNodeDown a_journalDown a_masterDown a_inTouch a_promise a_base a_logLength a_logEpoch a_logKind a_logA a_logB a_logC a_inodeState a_inodePlace a_inodeClient a_closeUnits a_rowLength a_rowBlock a_blockStamp a_replicaHeld a_replicaStamp a_unitCount a_unitValue) (fun post v => match v with | (f_active, f_epoch, a_nodeUp, a_journalUp, a_masterUp, a_touch, a_log, a_many, a_promise, a_base, a_stamp, a_units, a_unit, a_sort, a_placeOf, a_client, a_rowLength, a_row, a_closedWith, a_stampOf) => wY_close_120 post (nI n) x3 (nI l) 0 f_active f_epoch a_nodeUp a_journalUp a_masterUp a_touch a_log a_many a_promise a_base a_stamp a_units a_unit a_sort a_placeOf a_client a_rowLength a_row a_closedWith a_stampOf) := by
  by_cases hrm : lj_rm L 1
  · have hS := rd_ivS hD hac
    refine oc_c (cl_end hI hiv (fun c hc => by have := hS c hc; omega) hD.2 hac he hrm hn hs hl) ?_ ?_
    · rintro post ⟨f_active, f_epoch, a_dataNodeDown, a_journalDown, a_masterDown, a_inTouch, a_promise, a_base, a_logLength, a_logEpoch, a_logKind, a_logA, a_logB, a_logC, a_inodeState, a_inodePlace, a_inodeClient, a_closeUnits, a_rowLength, a_rowBlock, a_blockStamp, a_replicaHeld, a_replicaStamp, a_unitCount, a_unitValue⟩ h1 h2 h3 hp
      refine br_t rfl (xm_lackG (R := 1) h2 hiv (by decide) (fun z => absurd hrm z) (fun _ => br_t rfl (br_t rfl ?_)))
      rcases hx with ⟨rfl, rfl⟩ | ⟨b, hb16, rfl, hfw⟩
      · exact br_t rfl hp
      · refine br_f (ix_m1 (by omega)) (xm_fewestUnits (u := (f_active, f_epoch, a_dataNodeDown, a_journalDown, a_masterDown, a_inTouch, a_promise, a_base, a_logLength, a_logEpoch, a_logKind, a_logA, a_logB, a_logC, a_inodeState, a_inodePlace, a_inodeClient, a_closeUnits, a_rowLength, a_rowBlock, a_blockStamp, a_replicaHeld, a_replicaStamp, a_unitCount, a_unitValue)) h1 hI h3 hb hb16 ?_)
        rw [hfw, qt_ms]; exact hp
    · rintro post ⟨f_active, f_epoch, a_nodeUp, a_journalUp, a_masterUp, a_touch, a_log, a_many, a_promise, a_base, a_stamp, a_units, a_unit, a_sort, a_placeOf, a_client, a_rowLength, a_row, a_closedWith, a_stampOf⟩ h1 h2 h3 hp
      exact br_t rfl (ym_manyG (R := 1) h2 hiv (by decide) (fun z => absurd hrm z) (fun _ => br_t rfl (br_t rfl hp)))
  · refine oc_n (-4) hI hiv hD ?_ ?_
    · rintro post ⟨f_active, f_epoch, a_dataNodeDown, a_journalDown, a_masterDown, a_inTouch, a_promise, a_base, a_logLength, a_logEpoch, a_logKind, a_logA, a_logB, a_logC, a_inodeState, a_inodePlace, a_inodeClient, a_closeUnits, a_rowLength, a_rowBlock, a_blockStamp, a_replicaHeld, a_replicaStamp, a_unitCount, a_unitValue⟩ h1 h2 h3 hp
      exact br_t rfl (xm_lackG (R := 1) h2 hiv (by decide) (fun _ => br_f bo_1 hp) (fun z => absurd z hrm))
    · rintro post ⟨f_active, f_epoch, a_nodeUp, a_journalUp, a_masterUp, a_touch, a_log, a_many, a_promise, a_base, a_stamp, a_units, a_unit, a_sort, a_placeOf, a_client, a_rowLength, a_row, a_closedWith, a_stampOf⟩ h1 h2 h3 hp
      exact br_t rfl (ym_manyG (R := 1) h2 hiv (by decide) (fun _ => br_f bo_1 hp) (fun z => absurd z hrm))
theorem cl_mid1 {k : Nat} {T : qt_T} {L : lj_L} {nu : Nat → Bool} {st un : Nat → Nat} {ua : Nat → Int32} {n l b : Nat} (hk : k ≤ 2048) (hI : qt_iv T) (hiv : lj_iv k L T) (hD : rd_iv L (nu, st, un, ua)) (hb : rd_bd (nu, st, un, ua)) (hac : 0 < lj_ac L) (he : lj_ep L ≤ 512) (hn : n < 12) (hs : qt_so T n = 2) (hl : l ≤ 8) (hb16 : b < 16) (hin : qt_in (qt_rl T) (qt_ro T) b) (hfw : rd_fw (rd_g nu st b (qt_sp T b)) un b 5 = l + 1) :
    oc k T L (nu, st, un, ua) (fun post u => match u with | (f_active, f_epoch, a_dataNodeDown, a_journalDown, a_masterDown, a_inTouch, a_promise, a_base, a_logLength, a_logEpoch, a_logKind, a_logA, a_logB, a_logC, a_inodeState, a_inodePlace, a_inodeClient, a_closeUnits, a_rowLength, a_rowBlock, a_blockStamp, a_replicaHeld, a_replicaStamp, a_unitCount, a_unitValue) => wX_close_85 post (nI n) (nI b) 1 f_active f_epoch a_dataNodeDown a_journalDown a_masterDown a_inTouch a_promise a_base a_logLength a_logEpoch a_logKind a_logA a_logB a_logC a_inodeState a_inodePlace a_inodeClient a_closeUnits a_rowLength a_rowBlock a_blockStamp a_replicaHeld a_replicaStamp a_unitCount a_unitValue) (fun post v => match v with | (f_active, f_epoch, a_nodeUp, a_journalUp, a_masterUp, a_touch, a_log, a_many, a_promise, a_base, a_stamp, a_units, a_unit, a_sort, a_placeOf, a_client, a_rowLength, a_row, a_closedWith, a_stampOf) => wY_close_120 post (nI n) (nI b) (nI l) 1 f_active f_epoch a_nodeUp a_journalUp a_masterUp a_touch a_log a_many a_promise a_base a_stamp a_units a_unit a_sort a_placeOf a_client a_rowLength a_row a_closedWith a_stampOf) := by
  by_cases hrm2 : lj_rm L 2
  · have hrm : lj_rm L 1 := by
      obtain ⟨mu, ju, ac, ep, to, pr, ba, le, lg⟩ := L
      intro j hj ht
      have := hrm2 j hj ht
      exact ⟨fun z => by have := this.1 z; omega, by omega⟩
    have ho : qt_ok T (lj_ep L, 2, b, 0, 1) := ⟨he, Or.inr (Or.inr (Or.inl ⟨rfl, hb16, rfl, rfl⟩))⟩
    have W := lj_wrI hiv hac hrm ho
    have hlen := lj_rmL hiv hac hrm
    have hx : ∃ d, d < 5 ∧ rd_g nu st b (qt_sp T b) d = true := by
      obtain ⟨d, h1, h2, _⟩ := rd_fwA (f := rd_g nu st b (qt_sp T b)) (un := un) (b := b) (n := 5) (by omega)
      exact ⟨d, h1, h2⟩
    obtain ⟨r1, r2, r3, r4⟩ := rd_rnG hI hiv hD hac he hrm hb16 hl hx
    cases hkp : lj_kept L with
    | true =>
      rw [if_pos hkp] at W
      obtain ⟨e1, e2, e3⟩ := lj_wrN (q := 2) (a := b) (b := 0) (c := 1) hiv hac hkp
      have hI1 := qt_ivAp hI ho (show lj_len L < 1000 by omega)
      obtain ⟨q1, q2, q3, q4⟩ := qt_ap2 (T := T) (e := lj_ep L) (a := b) (b := 0) (c := 1) (k := lj_len L)
      have E := cl_end (nu := nu) (st := rd_set (2048 * lj_ep L + lj_len L + 1) (rd_g nu st b (qt_sp T b)) b st) (un := rd_set l (rd_g nu st b (qt_sp T b)) b un) (ua := ua) (n := n) (l := l) hI1 W (fun c hc => by have := r1 c hc; rw [e1, e3]; omega) r2 (by rw [e2]; exact hac) (by rw [e3]; exact he) (lj_wrR hrm2) hn (by rw [q1]; exact hs) hl
      obtain ⟨r, T', L', D', a1, a2, a3, a4, a5⟩ := E
      have hbd : rd_bd (nu, rd_set (2048 * lj_ep L + lj_len L + 1) (rd_g nu st b (qt_sp T b)) b st, rd_set l (rd_g nu st b (qt_sp T b)) b un, ua) := ⟨fun c hc => by have := r1 c hc; omega, r2⟩
      have hfw1 : rd_fw (rd_g nu (rd_set (2048 * lj_ep L + lj_len L + 1) (rd_g nu st b (qt_sp T b)) b st) b (qt_sp (qt_ap T (lj_ep L, 2, b, 0, 1) (lj_len L)) b)) (rd_set l (rd_g nu st b (qt_sp T b)) b un) b 5 = l + 1 := by
        rw [q4, qt_us]
        obtain ⟨d, hd, hg⟩ := hx
        exact rd_fwK (fun d hd hg => r4 d hd (by rw [← r3 d hd]; exact hg)) ⟨d, hd, by rw [r3 d hd]; exact hg⟩
      refine ⟨r, T', L', D', a1, a2, a3, ?_, ?_⟩
      · rintro post ⟨f_active, f_epoch, a_dataNodeDown, a_journalDown, a_masterDown, a_inTouch, a_promise, a_base, a_logLength, a_logEpoch, a_logKind, a_logA, a_logB, a_logC, a_inodeState, a_inodePlace, a_inodeClient, a_closeUnits, a_rowLength, a_rowBlock, a_blockStamp, a_replicaHeld, a_replicaStamp, a_unitCount, a_unitValue⟩ h1 h2 h3 hp
        refine br_f bo_1 (xm_lackG (R := 2) h2 hiv (by decide) (fun z => absurd hrm2 z) (fun _ => br_t rfl (br_f bo_1 (xm_renewG h1 hI h2 h3 hb hac hiv he hrm hb16 hfw (fun _ => ?_) (fun z => absurd (hkp.symm.trans z) (by decide))))))
        rintro ⟨f_active, f_epoch, a_dataNodeDown, a_journalDown, a_masterDown, a_inTouch, a_promise, a_base, a_logLength, a_logEpoch, a_logKind, a_logA, a_logB, a_logC, a_inodeState, a_inodePlace, a_inodeClient, a_closeUnits, a_rowLength, a_rowBlock, a_blockStamp, a_replicaHeld, a_replicaStamp, a_unitCount, a_unitValue⟩ g1 g2 g3
        refine br_f bo_1 (br_f (ix_m1 (by omega)) (xm_fewestUnits (u := (f_active, f_epoch, a_dataNodeDown, a_journalDown, a_masterDown, a_inTouch, a_promise, a_base, a_logLength, a_logEpoch, a_logKind, a_logA, a_logB, a_logC, a_inodeState, a_inodePlace, a_inodeClient, a_closeUnits, a_rowLength, a_rowBlock, a_blockStamp, a_replicaHeld, a_replicaStamp, a_unitCount, a_unitValue)) g1 hI1 g3 hbd hb16 ?_))
        rw [hfw1, qt_ms]
        exact a4 post (f_active, f_epoch, a_dataNodeDown, a_journalDown, a_masterDown, a_inTouch, a_promise, a_base, a_logLength, a_logEpoch, a_logKind, a_logA, a_logB, a_logC, a_inodeState, a_inodePlace, a_inodeClient, a_closeUnits, a_rowLength, a_rowBlock, a_blockStamp, a_replicaHeld, a_replicaStamp, a_unitCount, a_unitValue) g1 g2 g3 hp
      · rintro post ⟨f_active, f_epoch, a_nodeUp, a_journalUp, a_masterUp, a_touch, a_log, a_many, a_promise, a_base, a_stamp, a_units, a_unit, a_sort, a_placeOf, a_client, a_rowLength, a_row, a_closedWith, a_stampOf⟩ h1 h2 h3 hp
        refine br_f bo_1 (ym_manyG (R := 2) h2 hiv (by decide) (fun z => absurd hrm2 z) (fun _ => br_t rfl (br_f bo_1 (ym_renewG h1 hI h2 h3 hb hac hiv he hrm hb16 hin hfw (fun _ => ?_) (fun z => absurd (hkp.symm.trans z) (by decide))))))
        rintro ⟨f_active, f_epoch, a_nodeUp, a_journalUp, a_masterUp, a_touch, a_log, a_many, a_promise, a_base, a_stamp, a_units, a_unit, a_sort, a_placeOf, a_client, a_rowLength, a_row, a_closedWith, a_stampOf⟩ g1 g2 g3
        exact br_f bo_1 (a5 post (f_active, f_epoch, a_nodeUp, a_journalUp, a_masterUp, a_touch, a_log, a_many, a_promise, a_base, a_stamp, a_units, a_unit, a_sort, a_placeOf, a_client, a_rowLength, a_row, a_closedWith, a_stampOf) g1 g2 g3 hp)
    | false =>
      rw [if_neg (by rw [hkp]; decide)] at W
      refine ⟨-3, T, lj_wr L 2 b 0 1, rd_rn (nu, st, un, ua) (rd_g nu st b (qt_sp T b)) b (2048 * lj_ep L + lj_len L) l, hI, W, rd_wrI hiv hac r1 r2, ?_, ?_⟩
      · rintro post ⟨f_active, f_epoch, a_dataNodeDown, a_journalDown, a_masterDown, a_inTouch, a_promise, a_base, a_logLength, a_logEpoch, a_logKind, a_logA, a_logB, a_logC, a_inodeState, a_inodePlace, a_inodeClient, a_closeUnits, a_rowLength, a_rowBlock, a_blockStamp, a_replicaHeld, a_replicaStamp, a_unitCount, a_unitValue⟩ h1 h2 h3 hp
        refine br_f bo_1 (xm_lackG (R := 2) h2 hiv (by decide) (fun z => absurd hrm2 z) (fun _ => br_t rfl (br_f bo_1 (xm_renewG h1 hI h2 h3 hb hac hiv he hrm hb16 hfw (fun z => absurd (hkp.symm.trans z) (by decide)) (fun _ => ?_)))))
        rintro ⟨f_active, f_epoch, a_dataNodeDown, a_journalDown, a_masterDown, a_inTouch, a_promise, a_base, a_logLength, a_logEpoch, a_logKind, a_logA, a_logB, a_logC, a_inodeState, a_inodePlace, a_inodeClient, a_closeUnits, a_rowLength, a_rowBlock, a_blockStamp, a_replicaHeld, a_replicaStamp, a_unitCount, a_unitValue⟩ g1 g2 g3
        exact br_t rfl (hp _ g1 g2 g3)
      · rintro post ⟨f_active, f_epoch, a_nodeUp, a_journalUp, a_masterUp, a_touch, a_log, a_many, a_promise, a_base, a_stamp, a_units, a_unit, a_sort, a_placeOf, a_client, a_rowLength, a_row, a_closedWith, a_stampOf⟩ h1 h2 h3 hp
        refine br_f bo_1 (ym_manyG (R := 2) h2 hiv (by decide) (fun z => absurd hrm2 z) (fun _ => br_t rfl (br_f bo_1 (ym_renewG h1 hI h2 h3 hb hac hiv he hrm hb16 hin hfw (fun z => absurd (hkp.symm.trans z) (by decide)) (fun _ => ?_)))))
        rintro ⟨f_active, f_epoch, a_nodeUp, a_journalUp, a_masterUp, a_touch, a_log, a_many, a_promise, a_base, a_stamp, a_units, a_unit, a_sort, a_placeOf, a_client, a_rowLength, a_row, a_closedWith, a_stampOf⟩ g2 g3
        exact br_t rfl (hp _ g2 g3)
  · refine oc_n (-4) hI hiv hD ?_ ?_
    · rintro post ⟨f_active, f_epoch, a_dataNodeDown, a_journalDown, a_masterDown, a_inTouch, a_promise, a_base, a_logLength, a_logEpoch, a_logKind, a_logA, a_logB, a_logC, a_inodeState, a_inodePlace, a_inodeClient, a_closeUnits, a_rowLength, a_rowBlock, a_blockStamp, a_replicaHeld, a_replicaStamp, a_unitCount, a_unitValue⟩ h1 h2 h3 hp
      exact br_f bo_1 (xm_lackG (R := 2) h2 hiv (by decide) (fun _ => br_f bo_1 hp) (fun z => absurd z hrm2))
    · rintro post ⟨f_active, f_epoch, a_nodeUp, a_journalUp, a_masterUp, a_touch, a_log, a_many, a_promise, a_base, a_stamp, a_units, a_unit, a_sort, a_placeOf, a_client, a_rowLength, a_row, a_closedWith, a_stampOf⟩ h1 h2 h3 hp
      exact br_f bo_1 (ym_manyG (R := 2) h2 hiv (by decide) (fun _ => br_f bo_1 hp) (fun z => absurd z hrm2))
