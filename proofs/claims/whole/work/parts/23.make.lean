/-! make, remove, move -/
theorem rd_wrI {k : Nat} {L : lj_L} {T : qt_T} {nu : Nat → Bool} {st un : Nat → Nat} {ua : Nat → Int32} {q a b c : Nat} (I : lj_iv k L T) (ha : 0 < lj_ac L) (hs : ∀ c, c < 80 → st c ≤ 2048 * lj_ep L + lj_len L + 1) (hu : ∀ c, c < 80 → un c ≤ 8) : rd_iv (lj_wr L q a b c) (nu, st, un, ua) := by
  refine ⟨fun x hx => ?_, hu⟩
  have h1 := hs x hx
  have h2 := rl_len I
  cases hk : lj_kept L with
  | true =>
    obtain ⟨e1, e2, e3⟩ := lj_wrN (q := q) (a := a) (b := b) (c := c) I ha hk
    rw [e1, e2, e3, if_pos ha]; omega
  | false =>
    obtain ⟨e1, e2⟩ := lj_wrA (q := q) (a := a) (b := b) (c := c) hk
    rw [e1, e2, if_neg (by omega)]; omega
theorem rd_ivS {L : lj_L} {nu : Nat → Bool} {st un : Nat → Nat} {ua : Nat → Int32} (h : rd_iv L (nu, st, un, ua)) (ha : 0 < lj_ac L) : ∀ c, c < 80 → st c ≤ 2048 * lj_ep L + lj_len L := by
  intro c hc
  have := h.1 c hc
  rw [if_pos ha] at this
  exact this
/-- an int from -1 to 3, as a number and 1; 5 for all others -/
def ix_q (x : Int32) (c : Nat) : Prop := (c ≤ 4 ∧ x = qt_m c ∧ ¬ x < -1 ∧ ¬ 4 ≤ x ∧ ¬ 3 < x) ∨ (c = 5 ∧ (x < -1 ∨ (¬ x < -1 ∧ 4 ≤ x ∧ 3 < x)))
theorem ix_qe (x : Int32) : ∃ c, ix_q x c := by
  by_cases h : x < -1
  · exact ⟨5, Or.inr ⟨rfl, Or.inl h⟩⟩
  · by_cases h1 : x = -1
    · subst h1
      exact ⟨0, Or.inl ⟨by decide, by decide +kernel, by decide, by decide, by decide⟩⟩
    · have h0 : ¬ x < 0 := by
        intro z
        rw [Int32.lt_iff_toInt_lt] at h z
        rw [← Int32.toInt_inj] at h1
        rw [show (-1 : Int32).toInt = -1 by decide] at h h1
        rw [show (0 : Int32).toInt = 0 by decide] at z
        omega
      obtain ⟨j, hj, rfl⟩ := nI_of h0
      by_cases h4 : j < 4
      · refine ⟨j + 1, Or.inl ⟨by omega, (qt_ms j).symm, h, lb_f h4, ?_⟩⟩
        exact fun z => by have := (nI_ltI (a := 3) (by decide) (by omega)).mp z; omega
      · exact ⟨5, Or.inr ⟨rfl, Or.inr ⟨h, nI_le (a := 4) (by omega) hj, nI_lt (a := 3) (by omega) hj⟩⟩⟩
theorem qt_rbI {e q a b c : Nat} (h1 : e ≤ 512) (h2 : q < 6) (h3 : a < 16) (h4 : b < 96) (h5 : c ≤ 4) : qt_rb (e, q, a, b, c) := ⟨h1, h2, h3, h4, h5⟩
theorem ls_1 {T : qt_T} {m : Nat} (hI : qt_iv T) (hm : ls_f (fun i => qt_so T i = 0) 12 m) : 1 ≤ m := by
  by_cases y : m = 0
  · subst y
    have z : qt_so T 0 = 0 := hm.2.2 (by decide)
    rw [qt_iv1 hI] at z
    omega
  · omega
theorem lj_rmL {k n : Nat} {L : lj_L} {T : qt_T} (I : lj_iv k L T) (ha : 0 < lj_ac L) (h : lj_rm L n) : lj_len L + n ≤ 1000 := by
  obtain ⟨mu, ju, ac, ep, to, pr, ba, le, lg⟩ := L
  exact (h _ (lj_srcL to) (lj_srcT (I.2.2.2.2.2 ha).1)).2
section
variable {T : qt_T} {mu ju : Nat → Bool} {ac ep : Nat} {to : Nat → Bool} {pr ba le : Nat → Nat} {lg : Nat → Nat → qt_R} {nu : Nat → Bool} {st un : Nat → Nat} {ua : Nat → Int32}
theorem xm_act {f : Int32} (h : f = qt_m ac) (ha : ac ≤ 2) : f = -1 ↔ ac = 0 := by rw [h, qt_m0E (by omega)]
theorem ym_act {f : Int32} (h : f = qt_m ac) (ha : ac ≤ 2) : 0 ≤ f ↔ 0 < ac := by rw [h]; exact qt_Nm (s := 0) (by omega) (by decide)
theorem xm_make {k : Nat} {u : SX} (h : sx_T T u) (hI : qt_iv T) (hL : sx_L (mu, ju, ac, ep, to, pr, ba, le, lg) u) (hD : sx_D (nu, st, un, ua) u) (hiv : lj_iv k (mu, ju, ac, ep, to, pr, ba, le, lg) T) (he : ep ≤ 512) {post : Int32 → SX → Prop} {p q r : Int32} {c d x m : Nat} (hc : ix_q p c) (hd : ix_c q 12 d) (hx : ix_c r 8 x) (hm : ls_f (fun i => qt_so T i = 0) 12 m)
    (k0 : ac = 0 → post (-1) u) (k1 : 0 < ac → c = 5 → post (-2) u) (k2 : 0 < ac → c ≤ 4 → ¬ qt_fr T d x → post (-2) u) (k3 : 0 < ac → c ≤ 4 → qt_fr T d x → m = 12 → post (-4) u) (k4 : 0 < ac → c ≤ 4 → qt_fr T d x → m < 12 → ¬ lj_rm (mu, ju, ac, ep, to, pr, ba, le, lg) 1 → post (-4) u)
    (k5 : 0 < ac → c ≤ 4 → qt_fr T d x → m < 12 → lj_rm (mu, ju, ac, ep, to, pr, ba, le, lg) 1 → lj_kept (mu, ju, ac, ep, to, pr, ba, le, lg) = true → ∀ u', sx_T (qt_ap T (ep, 0, m, 8 * d + x, c) (le (lj_src to))) u' → sx_L (lj_wr (mu, ju, ac, ep, to, pr, ba, le, lg) 0 m (8 * d + x) c) u' → sx_D (nu, st, un, ua) u' → post (nI m) u')
    (k6 : 0 < ac → c ≤ 4 → qt_fr T d x → m < 12 → lj_rm (mu, ju, ac, ep, to, pr, ba, le, lg) 1 → lj_kept (mu, ju, ac, ep, to, pr, ba, le, lg) = false → ∀ u', sx_T T u' → sx_L (lj_wr (mu, ju, ac, ep, to, pr, ba, le, lg) 0 m (8 * d + x) c) u' → sx_D (nu, st, un, ua) u' → post (-3) u') : wpX_make post u p q r := by
  obtain ⟨f_active, f_epoch, a_dataNodeDown, a_journalDown, a_masterDown, a_inTouch, a_promise, a_base, a_logLength, a_logEpoch, a_logKind, a_logA, a_logB, a_logC, a_inodeState, a_inodePlace, a_inodeClient, a_closeUnits, a_rowLength, a_rowBlock, a_blockStamp, a_replicaHeld, a_replicaStamp, a_unitCount, a_unitValue⟩ := u
  have hac2 := hiv.2.1
  have i5 := hiv.2.2.2.2.1
  refine cd_if (xm_act hL.1 hac2) k0 (fun za => ?_)
  have ha : 0 < ac := by omega
  rcases hc with ⟨hc, rfl, c1, c2, c3⟩ | ⟨hc, c1 | ⟨c1, c2, c3⟩⟩
  · refine br_f c1 (br_f c2 (xm_isFreePlace (u := (f_active, f_epoch, a_dataNodeDown, a_journalDown, a_masterDown, a_inTouch, a_promise, a_base, a_logLength, a_logEpoch, a_logKind, a_logA, a_logB, a_logC, a_inodeState, a_inodePlace, a_inodeClient, a_closeUnits, a_rowLength, a_rowBlock, a_blockStamp, a_replicaHeld, a_replicaStamp, a_unitCount, a_unitValue)) h hI hd hx (fun hf => br_f bo_1 ?_) (fun hf => br_t rfl (k2 ha hc hf))))
    refine xm_leastAbsentInode (u := (f_active, f_epoch, a_dataNodeDown, a_journalDown, a_masterDown, a_inTouch, a_promise, a_base, a_logLength, a_logEpoch, a_logKind, a_logA, a_logB, a_logC, a_inodeState, a_inodePlace, a_inodeClient, a_closeUnits, a_rowLength, a_rowBlock, a_blockStamp, a_replicaHeld, a_replicaStamp, a_unitCount, a_unitValue)) h hI hm ?_
    by_cases hmm : m < 12
    · rw [ls_vS hmm]
      refine br_f (ix_m1 (by omega)) (xm_logsLackRoom (u := (f_active, f_epoch, a_dataNodeDown, a_journalDown, a_masterDown, a_inTouch, a_promise, a_base, a_logLength, a_logEpoch, a_logKind, a_logA, a_logB, a_logC, a_inodeState, a_inodePlace, a_inodeClient, a_closeUnits, a_rowLength, a_rowBlock, a_blockStamp, a_replicaHeld, a_replicaStamp, a_unitCount, a_unitValue)) hL (fun j hj => ⟨(i5 j hj).2.1, (i5 j hj).2.2.2⟩) (R := 1) (by decide) (fun z => br_f bo_1 (k4 ha hc hf hmm z)) (fun z => br_t rfl ?_))
      obtain ⟨f1, f2, f3, f4⟩ := hf
      have e1 := ix_i hd f1
      have e2 := ix_i hx f2
      subst e1 e2
      have hm1 : 1 ≤ m := ls_1 hI hm
      rw [show nI d * 8 + nI x = nI (8 * d + x) from mu_r d 8 x]
      have ho : qt_ok T (ep, 0, m, 8 * d + x, c) := by
        refine ⟨he, Or.inl ⟨rfl, hm1, hmm, hm.2.2 hmm, by omega, ?_, hc⟩⟩
        rw [show (8 * d + x) / 8 = d by omega]; exact f3
      refine xm_writeRecord (u := (f_active, f_epoch, a_dataNodeDown, a_journalDown, a_masterDown, a_inTouch, a_promise, a_base, a_logLength, a_logEpoch, a_logKind, a_logA, a_logB, a_logC, a_inodeState, a_inodePlace, a_inodeClient, a_closeUnits, a_rowLength, a_rowBlock, a_blockStamp, a_replicaHeld, a_replicaStamp, a_unitCount, a_unitValue)) h hI hL hD ha hiv z ho (fun hk => ?_) (fun hk => ?_)
      · rintro ⟨f_active, f_epoch, a_dataNodeDown, a_journalDown, a_masterDown, a_inTouch, a_promise, a_base, a_logLength, a_logEpoch, a_logKind, a_logA, a_logB, a_logC, a_inodeState, a_inodePlace, a_inodeClient, a_closeUnits, a_rowLength, a_rowBlock, a_blockStamp, a_replicaHeld, a_replicaStamp, a_unitCount, a_unitValue⟩ g1 g2 g3
        exact br_f bo_1 (k5 ha hc ⟨f1, f2, f3, f4⟩ hmm z hk _ g1 g2 g3)
      · rintro ⟨f_active, f_epoch, a_dataNodeDown, a_journalDown, a_masterDown, a_inTouch, a_promise, a_base, a_logLength, a_logEpoch, a_logKind, a_logA, a_logB, a_logC, a_inodeState, a_inodePlace, a_inodeClient, a_closeUnits, a_rowLength, a_rowBlock, a_blockStamp, a_replicaHeld, a_replicaStamp, a_unitCount, a_unitValue⟩ g1 g2 g3
        exact br_t rfl (k6 ha hc ⟨f1, f2, f3, f4⟩ hmm z hk _ g1 g2 g3)
    · have e : m = 12 := by have := hm.1; omega
      subst e
      rw [ls_vN]
      exact br_t rfl (k3 ha hc hf rfl)
  · exact br_t c1 (k1 ha hc)
  · exact br_f c1 (br_t c2 (k1 ha hc))
theorem ym_make {k : Nat} {v : SY} (hI : qt_iv T) (hL : sy_L (mu, ju, ac, ep, to, pr, ba, le, lg) v) (hD : sy_D (nu, st, un, ua) v) (hiv : lj_iv k (mu, ju, ac, ep, to, pr, ba, le, lg) T) (he : ep ≤ 512) {post : Int32 → SY → Prop} {p q r : Int32} {c d x m : Nat} (hc : ix_q p c) (hd : ix_c q 12 d) (hx : ix_c r 8 x) (hm : ls_f (fun i => qt_so T i = 0) 12 m)
    (k0 : ac = 0 → post (-1) v) (k1 : 0 < ac → c = 5 → ∀ v', sy_L (mu, ju, ac, ep, to, pr, ba, le, lg) v' → sy_D (nu, st, un, ua) v' → post (-2) v') (k2 : 0 < ac → c ≤ 4 → ¬ qt_fr T d x → ∀ v', sy_L (mu, ju, ac, ep, to, pr, ba, le, lg) v' → sy_D (nu, st, un, ua) v' → post (-2) v') (k3 : 0 < ac → c ≤ 4 → qt_fr T d x → m = 12 → ∀ v', sy_L (mu, ju, ac, ep, to, pr, ba, le, lg) v' → sy_D (nu, st, un, ua) v' → post (-4) v') (k4 : 0 < ac → c ≤ 4 → qt_fr T d x → m < 12 → ¬ lj_rm (mu, ju, ac, ep, to, pr, ba, le, lg) 1 → ∀ v', sy_L (mu, ju, ac, ep, to, pr, ba, le, lg) v' → sy_D (nu, st, un, ua) v' → post (-4) v')
    (k5 : 0 < ac → c ≤ 4 → qt_fr T d x → m < 12 → lj_rm (mu, ju, ac, ep, to, pr, ba, le, lg) 1 → lj_kept (mu, ju, ac, ep, to, pr, ba, le, lg) = true → ∀ v', sy_L (lj_wr (mu, ju, ac, ep, to, pr, ba, le, lg) 0 m (8 * d + x) c) v' → sy_D (nu, st, un, ua) v' → post (nI m) v')
    (k6 : 0 < ac → c ≤ 4 → qt_fr T d x → m < 12 → lj_rm (mu, ju, ac, ep, to, pr, ba, le, lg) 1 → lj_kept (mu, ju, ac, ep, to, pr, ba, le, lg) = false → ∀ v', sy_L (lj_wr (mu, ju, ac, ep, to, pr, ba, le, lg) 0 m (8 * d + x) c) v' → sy_D (nu, st, un, ua) v' → post (-3) v') : wpY_make post v p q r := by
  obtain ⟨f_active, f_epoch, a_nodeUp, a_journalUp, a_masterUp, a_touch, a_log, a_many, a_promise, a_base, a_stamp, a_units, a_unit, a_sort, a_placeOf, a_client, a_rowLength, a_row, a_closedWith, a_stampOf⟩ := v
  have hac2 := hiv.2.1
  have i5 := hiv.2.2.2.2.1
  refine cd_if (ym_act hL.1 hac2) (fun ha => ym_tell (v := (f_active, f_epoch, a_nodeUp, a_journalUp, a_masterUp, a_touch, a_log, a_many, a_promise, a_base, a_stamp, a_units, a_unit, a_sort, a_placeOf, a_client, a_rowLength, a_row, a_closedWith, a_stampOf)) hL hD (fun j hj => ⟨(i5 j hj).1, (i5 j hj).2.2.2⟩) ?_) (fun za => k0 (by omega))
  rintro ⟨f_active, f_epoch, a_nodeUp, a_journalUp, a_masterUp, a_touch, a_log, a_many, a_promise, a_base, a_stamp, a_units, a_unit, a_sort, a_placeOf, a_client, a_rowLength, a_row, a_closedWith, a_stampOf⟩ gT gL gD
  rw [← (hiv.2.2.2.2.2 ha).2.2] at gT
  have hm1 : 1 ≤ m := ls_1 hI hm
  have rest : c ≤ 4 → qt_fr T d x → p = qt_m c → wY_make_65 post p q r (nI m) f_active f_epoch a_nodeUp a_journalUp a_masterUp a_touch a_log a_many a_promise a_base a_stamp a_units a_unit a_sort a_placeOf a_client a_rowLength a_row a_closedWith a_stampOf := by
    intro hc4 hf ep'
    subst ep'
    refine cd_if (nI_eq (b := 12) (by have := hm.1; omega) (by decide)) (fun z => k3 ha hc4 hf z _ gL gD) (fun z => ?_)
    have hmm : m < 12 := by have := hm.1; omega
    refine ym_tooMany (v := (f_active, f_epoch, a_nodeUp, a_journalUp, a_masterUp, a_touch, a_log, a_many, a_promise, a_base, a_stamp, a_units, a_unit, a_sort, a_placeOf, a_client, a_rowLength, a_row, a_closedWith, a_stampOf)) gL (fun j hj => ⟨(i5 j hj).2.1, (i5 j hj).2.2.2⟩) (R := 1) (by decide) (fun z => br_f bo_1 (k4 ha hc4 hf hmm z _ gL gD)) (fun z => br_t rfl ?_)
    obtain ⟨f1, f2, f3, f4⟩ := hf
    have e1 := ix_i hd f1
    have e2 := ix_i hx f2
    subst e1 e2
    rw [show 8 * nI d + nI x = nI (8 * d + x) from mu_l d 8 x]
    refine ym_write (v := (f_active, f_epoch, a_nodeUp, a_journalUp, a_masterUp, a_touch, a_log, a_many, a_promise, a_base, a_stamp, a_units, a_unit, a_sort, a_placeOf, a_client, a_rowLength, a_row, a_closedWith, a_stampOf)) gL gD (fun j hj => (i5 j hj).2.2.2) (qt_rbI he (by decide) (by omega) (by omega) hc4) (fun hk => ?_) (fun hk => ?_)
    · rintro ⟨f_active, f_epoch, a_nodeUp, a_journalUp, a_masterUp, a_touch, a_log, a_many, a_promise, a_base, a_stamp, a_units, a_unit, a_sort, a_placeOf, a_client, a_rowLength, a_row, a_closedWith, a_stampOf⟩ g2 g3
      exact br_f bo_1 (k5 ha hc4 ⟨f1, f2, f3, f4⟩ hmm z hk _ g2 g3)
    · rintro ⟨f_active, f_epoch, a_nodeUp, a_journalUp, a_masterUp, a_touch, a_log, a_many, a_promise, a_base, a_stamp, a_units, a_unit, a_sort, a_placeOf, a_client, a_rowLength, a_row, a_closedWith, a_stampOf⟩ g2 g3
      exact br_t rfl (k6 ha hc4 ⟨f1, f2, f3, f4⟩ hmm z hk _ g2 g3)
  have loop : c ≤ 4 → qt_fr T d x → p = qt_m c → ∃ n, wY_make_42 post p q r f_active f_epoch a_nodeUp a_journalUp a_masterUp a_touch a_log a_many a_promise a_base a_stamp a_units a_unit a_sort a_placeOf a_client a_rowLength a_row a_closedWith a_stampOf n 1 := by
    intro hc hf ep'
    refine ⟨13, lq_s (fun n i => wY_make_42 post p q r f_active f_epoch a_nodeUp a_journalUp a_masterUp a_touch a_log a_many a_promise a_base a_stamp a_units a_unit a_sort a_placeOf a_client a_rowLength a_row a_closedWith a_stampOf n (nI i)) 12 m hm.1 (fun n e => ?_) (fun n hlt => ?_) (fun n i hi H => ?_) 13 1 (by omega) (by omega)⟩
    · have := rest hc hf ep'
      rw [e] at this
      exact br_t lb_t this
    · have hb := qt_iv3 hI m hlt
      exact br_f (lb_f hlt) ⟨vp_in_nI hlt (by decide), br_t ((cd_e (c := 0) (qt_ag1 gT m hlt) (by omega) (by omega) (by decide)).mpr (hm.2.2 hlt)) (rest hc hf ep')⟩
    · have hlt : i < 12 := by have := hm.1; omega
      have hb := qt_iv3 hI i hlt
      exact br_f (lb_f hlt) ⟨vp_in_nI hlt (by decide), br_f ((not_congr (cd_e (c := 0) (qt_ag1 gT i hlt) (by omega) (by omega) (by decide))).mpr (hm.2.1 i hi)) (nm_r (nI_1 i) H)⟩
  rcases hc with ⟨hc, ep', c1, c2, c3⟩ | ⟨hc, c1 | ⟨c1, c2, c3⟩⟩
  · exact ym_isFree (v := (f_active, f_epoch, a_nodeUp, a_journalUp, a_masterUp, a_touch, a_log, a_many, a_promise, a_base, a_stamp, a_units, a_unit, a_sort, a_placeOf, a_client, a_rowLength, a_row, a_closedWith, a_stampOf)) gT hI hd hx (fun hf => br_f c1 (br_f c3 (br_f bo_1 (loop hc hf ep')))) (fun hf => br_f c1 (br_f c3 (br_t rfl (k2 ha hc hf _ gL gD))))
  · exact ym_isFree (v := (f_active, f_epoch, a_nodeUp, a_journalUp, a_masterUp, a_touch, a_log, a_many, a_promise, a_base, a_stamp, a_units, a_unit, a_sort, a_placeOf, a_client, a_rowLength, a_row, a_closedWith, a_stampOf)) gT hI hd hx (fun hf => br_t c1 (k1 ha hc _ gL gD)) (fun hf => br_t c1 (k1 ha hc _ gL gD))
  · exact ym_isFree (v := (f_active, f_epoch, a_nodeUp, a_journalUp, a_masterUp, a_touch, a_log, a_many, a_promise, a_base, a_stamp, a_units, a_unit, a_sort, a_placeOf, a_client, a_rowLength, a_row, a_closedWith, a_stampOf)) gT hI hd hx (fun hf => br_f c1 (br_t c3 (k1 ha hc _ gL gD))) (fun hf => br_f c1 (br_t c3 (k1 ha hc _ gL gD)))
end
theorem i_vc_make {k : Nat} {u : SX} {v : SY} (I : i_Rel k u v) (hk : k + 4 ≤ 2048) (v1 : Int32) (v2 : Int32) (v3 : Int32) : wpX_make (fun r u' => wpY_make (fun r' v' => r' = r ∧ i_Rel (k + 4) u' v') v v1 v2 v3) u v1 v2 v3 := by
  have I' := i_up I
  obtain ⟨T, ⟨mu, ju, ac, ep, to, pr, ba, le, lg⟩, ⟨nu, st, un, ua⟩, h1, h2, h3, h4, h5, h6, h7, h8⟩ := I
  have he : ep ≤ 512 := rl_ep h7 (by omega)
  obtain ⟨c, hc⟩ := ix_qe v1
  obtain ⟨d, hd⟩ := ix_e v2 (N := 12) (by decide)
  obtain ⟨x, hx⟩ := ix_e v3 (N := 8) (by decide)
  obtain ⟨m, hm⟩ := ls_ex (fun i => qt_so T i = 0) 12
  have R0 : ∀ v', sy_L (mu, ju, ac, ep, to, pr, ba, le, lg) v' → sy_D (nu, st, un, ua) v' → i_Rel (k + 4) u v' := fun v' g1 g2 => ⟨T, _, _, h1, h2, h3, g1, g2, h6, lj_ivK (by omega) h7, h8⟩
  refine xm_make h1 h6 h2 h3 h7 he hc hd hx hm (fun a => ?_) (fun a b => ?_) (fun a b e => ?_) (fun a b e f => ?_) (fun a b e f g => ?_) (fun a b e f g hkp u' g1 g2 g3 => ?_) (fun a b e f g hkp u' g1 g2 g3 => ?_)
  · exact ym_make h6 h4 h5 h7 he hc hd hx hm (fun _ => ⟨rfl, I'⟩) (by intros; omega) (by intros; omega) (by intros; omega) (by intros; omega) (by intros; omega) (by intros; omega)
  · exact ym_make h6 h4 h5 h7 he hc hd hx hm (by intros; omega) (fun _ _ v' m1 m2 => ⟨rfl, R0 v' m1 m2⟩) (by intros; omega) (by intros; omega) (by intros; omega) (by intros; omega) (by intros; omega)
  · exact ym_make h6 h4 h5 h7 he hc hd hx hm (by intros; omega) (by intros; omega) (fun _ _ _ v' m1 m2 => ⟨rfl, R0 v' m1 m2⟩) (by intros; contradiction) (by intros; contradiction) (by intros; contradiction) (by intros; contradiction)
  · exact ym_make h6 h4 h5 h7 he hc hd hx hm (by intros; omega) (by intros; omega) (by intros; contradiction) (fun _ _ _ _ v' m1 m2 => ⟨rfl, R0 v' m1 m2⟩) (by intros; omega) (by intros; omega) (by intros; omega)
  · exact ym_make h6 h4 h5 h7 he hc hd hx hm (by intros; omega) (by intros; omega) (by intros; contradiction) (by intros; omega) (fun _ _ _ _ _ v' m1 m2 => ⟨rfl, R0 v' m1 m2⟩) (by intros; contradiction) (by intros; contradiction)
  · have ho : qt_ok T (ep, 0, m, 8 * d + x, c) := by
      refine ⟨he, Or.inl ⟨rfl, ls_1 h6 hm, f, hm.2.2 f, by have := e.1; have := e.2.1; omega, ?_, b⟩⟩
      rw [show (8 * d + x) / 8 = d by have := e.2.1; omega]; exact e.2.2.1
    have W := lj_wrI h7 a g ho
    rw [if_pos hkp] at W
    have hlen : lj_len (mu, ju, ac, ep, to, pr, ba, le, lg) < 1000 := lj_rmL h7 a g
    exact ym_make h6 h4 h5 h7 he hc hd hx hm (by intros; omega) (by intros; omega) (by intros; contradiction) (by intros; omega) (by intros; contradiction) (fun _ _ _ _ _ _ v' m1 m2 => ⟨rfl, _, _, _, g1, g2, g3, m1, m2, qt_ivAp h6 ho hlen, lj_ivK (by omega) W, rd_wrI h7 a (fun c hc => by have := rd_ivS h8 a c hc; omega) h8.2⟩) (by intros; simp_all)
  · have ho : qt_ok T (ep, 0, m, 8 * d + x, c) := by
      refine ⟨he, Or.inl ⟨rfl, ls_1 h6 hm, f, hm.2.2 f, by have := e.1; have := e.2.1; omega, ?_, b⟩⟩
      rw [show (8 * d + x) / 8 = d by have := e.2.1; omega]; exact e.2.2.1
    have W := lj_wrI h7 a g ho
    rw [if_neg (by rw [hkp]; decide)] at W
    exact ym_make h6 h4 h5 h7 he hc hd hx hm (by intros; omega) (by intros; omega) (by intros; contradiction) (by intros; omega) (by intros; contradiction) (by intros; simp_all) (fun _ _ _ _ _ _ v' m1 m2 => ⟨rfl, _, _, _, g1, g2, g3, m1, m2, h6, lj_ivK (by omega) W, rd_wrI h7 a (fun c hc => by have := rd_ivS h8 a c hc; omega) h8.2⟩)
