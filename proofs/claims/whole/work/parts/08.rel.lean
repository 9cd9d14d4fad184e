/-! the two states against the pure one -/
def lj_ce (r : qt_R) (e q a b c : Int32) : Prop := e = nI r.1 ∧ q = nI r.2.1 ∧ a = nI r.2.2.1 ∧ b = nI r.2.2.2.1 ∧ c = qt_m r.2.2.2.2
def sx_T (T : qt_T) (u : SX) : Prop :=
  match u with
  | (_, _, _, _, _, _, _, _, _, _, _, _, _, _, a_inodeState, a_inodePlace, a_inodeClient, a_closeUnits, a_rowLength, a_rowBlock, a_blockStamp, _, _, _, _) =>
    qt_ag True T a_inodeState a_inodePlace a_inodeClient a_closeUnits a_rowLength a_rowBlock a_blockStamp
def sx_L (L : lj_L) (u : SX) : Prop :=
  match L, u with
  | (mu, ju, ac, ep, to, pr, ba, le, lg), (f_active, f_epoch, _, a_journalDown, a_masterDown, a_inTouch, a_promise, a_base, a_logLength, a_logEpoch, a_logKind, a_logA, a_logB, a_logC, _, _, _, _, _, _, _, _, _, _, _) =>
    f_active = qt_m ac ∧ f_epoch = nI ep ∧ (∀ j, j < 3 → a_journalDown j = bo_n (ju j)) ∧ (∀ m, m < 2 → a_masterDown m = bo_n (mu m)) ∧ (∀ j, j < 3 → a_inTouch j = bo_p (to j))
      ∧ (∀ j, j < 3 → a_promise j = nI (pr j)) ∧ (∀ j, j < 3 → a_base j = nI (ba j)) ∧ (∀ j, j < 3 → a_logLength j = nI (le j))
      ∧ (∀ j k, j < 3 → k < le j → lj_ce (lg j k) (a_logEpoch (1000 * j + k)) (a_logKind (1000 * j + k)) (a_logA (1000 * j + k)) (a_logB (1000 * j + k)) (a_logC (1000 * j + k)))
def sx_D (D : rd_D) (u : SX) : Prop :=
  match D, u with
  | (nu, st, un, ua), (_, _, a_dataNodeDown, _, _, _, _, _, _, _, _, _, _, _, _, _, _, _, _, _, _, a_replicaHeld, a_replicaStamp, a_unitCount, a_unitValue) =>
    (∀ d, d < 5 → a_dataNodeDown d = bo_n (nu d)) ∧ (∀ c, c < 80 → a_replicaHeld c = if st c = 0 then 0 else 1) ∧ (∀ c, c < 80 → st c ≠ 0 → a_replicaStamp c = nI (st c - 1))
      ∧ (∀ c, c < 80 → a_unitCount c = nI (un c)) ∧ a_unitValue = ua
def sy_T (T : qt_T) (v : SY) : Prop :=
  match v with
  | (_, _, _, _, _, _, _, _, _, _, _, _, _, a_sort, a_placeOf, a_client, a_rowLength, a_row, a_closedWith, a_stampOf) =>
    qt_ag False T a_sort a_placeOf a_client a_closedWith a_rowLength a_row a_stampOf
def sy_L (L : lj_L) (v : SY) : Prop :=
  match L, v with
  | (mu, ju, ac, ep, to, pr, ba, le, lg), (f_active, f_epoch, _, a_journalUp, a_masterUp, a_touch, a_log, a_many, a_promise, a_base, _, _, _, _, _, _, _, _, _, _) =>
    f_active = qt_m ac ∧ f_epoch = nI ep ∧ (∀ j, j < 3 → a_journalUp j = bo_p (ju j)) ∧ (∀ m, m < 2 → a_masterUp m = bo_p (mu m)) ∧ (∀ j, j < 3 → a_touch j = bo_p (to j))
      ∧ (∀ j, j < 3 → a_promise j = nI (pr j)) ∧ (∀ j, j < 3 → a_base j = nI (ba j)) ∧ (∀ j, j < 3 → a_many j = nI (le j))
      ∧ (∀ j k, j < 3 → k < le j → a_log (1001 * j + k) = lN (qt_pk (lg j k)))
def sy_D (D : rd_D) (v : SY) : Prop :=
  match D, v with
  | (nu, st, un, ua), (_, _, a_nodeUp, _, _, _, _, _, _, _, a_stamp, a_units, a_unit, _, _, _, _, _, _, _) =>
    (∀ d, d < 5 → a_nodeUp d = bo_p (nu d)) ∧ (∀ c, c < 80 → a_stamp c = qt_m (st c)) ∧ (∀ c, c < 80 → a_units c = nI (un c)) ∧ a_unit = ua
def i_Rel (k : Nat) (u : SX) (v : SY) : Prop := ∃ (T : qt_T) (L : lj_L) (D : rd_D), sx_T T u ∧ sx_L L u ∧ sx_D D u ∧ sy_L L v ∧ sy_D D v ∧ qt_iv T ∧ lj_iv k L T ∧ rd_iv L D
theorem i_up {k : Nat} {u : SX} {v : SY} (h : i_Rel k u v) : i_Rel (k + 4) u v := by
  obtain ⟨T, L, D, h1, h2, h3, h4, h5, h6, h7, h8⟩ := h
  exact ⟨T, L, D, h1, h2, h3, h4, h5, h6, lj_ivK (by omega) h7, h8⟩
