/-! read, block -/
theorem nu_ne (x : Int32) : ¬ x.toInt64 = 10000000000 := by
  intro h
  have h1 : x.toInt64.toInt = (10000000000 : Int64).toInt := by rw [h]
  rw [Int32.toInt_toInt64, show (10000000000 : Int64).toInt = 10000000000 by decide] at h1
  have := Int32.toInt_lt x
  omega
theorem qt_NmL {a s : Nat} (ha : a < 2 ^ 31) (hs : s < 2 ^ 31) : nI s < qt_m a ↔ s + 1 < a := by
  rw [Int32.lt_iff_toInt_lt, qt_mT ha, nI_toInt hs]; omega
/-- the b of CLOSE leaves unit J out -/
def qt_lim (T : qt_T) (n J : Nat) : Prop := qt_so T n = 3 ∧ qt_cw T n ≠ 0 ∧ J / 8 = qt_rl T n - 1 ∧ qt_cw T n ≤ J % 8
/-- unit J of file n is found -/
def rd_fd (T : qt_T) (nu : Nat → Bool) (st un : Nat → Nat) (n J : Nat) : Prop := J / 8 < qt_rl T n ∧ ¬ qt_lim T n J ∧ J % 8 + 1 < rd_fw (rd_g nu st (qt_ro T (3 * n + J / 8)) (qt_sp T (qt_ro T (3 * n + J / 8)))) un (qt_ro T (3 * n + J / 8)) 5
theorem rd_fwX {f : Nat → Bool} {un : Nat → Nat} {b m : Nat} (hm : ls_f (fun d => f d = true) 5 m) : 0 < rd_fw f un b 5 → m < 5 := by
  intro h
  by_cases hl : m < 5
  · exact hl
  · exfalso
    have e : m = 5 := by have := hm.1; omega
    subst e
    have : rd_fw f un b 5 = 0 := rd_fw0 (fun d hd => by have := hm.2.1 d hd; simpa using this)
    omega
section
variable {T : qt_T} {mu ju : Nat → Bool} {ac ep : Nat} {to : Nat → Bool} {pr ba le : Nat → Nat} {lg : Nat → Nat → qt_R} {nu : Nat → Bool} {st un : Nat → Nat} {ua : Nat → Int32}
theorem xm_findUnit {u : SX} (h : sx_T T u) (hI : qt_iv T) (hD : sx_D (nu, st, un, ua) u) (hb : rd_bd (nu, st, un, ua)) {post : Int64 → Prop} {n J : Nat} (hn : n < 12) (hJ : J < 2 ^ 31) (h0 : ¬ rd_fd T nu st un n J → post 10000000000)
    (h1 : rd_fd T nu st un n J → ∀ m, m < 5 → ls_f (fun d => rd_g nu st (qt_ro T (3 * n + J / 8)) (qt_sp T (qt_ro T (3 * n + J / 8))) d = true) 5 m → post (ua (8 * (16 * m + qt_ro T (3 * n + J / 8)) + J % 8)).toInt64) : wpX_findUnit post u (nI n) (nI J) := by
  obtain ⟨f_active, f_epoch, a_dataNodeDown, a_journalDown, a_masterDown, a_inTouch, a_promise, a_base, a_logLength, a_logEpoch, a_logKind, a_logA, a_logB, a_logC, a_inodeState, a_inodePlace, a_inodeClient, a_closeUnits, a_rowLength, a_rowBlock, a_blockStamp, a_replicaHeld, a_replicaStamp, a_unitCount, a_unitValue⟩ := u
  have hv := vp_in_nI hn (by decide : 12 < 2 ^ 31)
  have hc : (nI n).toNatClampNeg = n := nI_clamp (by omega)
  have hr := qt_iv4 hI n hn
  have hcw := qt_iv10 hI n hn
  have hs3 := qt_iv3 hI n hn
  have e8 : nI J / 8 = nI (J / 8) := pk_div (d := 8) hJ (by decide) (by decide)
  have er : nI J - nI (J / 8) * 8 = nI (J % 8) := by
    have := pk_rem (d := 8) hJ (by decide) (by decide)
    rw [show (nI 8) = (8 : Int32) from rfl, e8] at this
    exact this
  have el : a_rowLength n = nI (qt_rl T n) := qt_ag5 h n hn
  have es : a_inodeState n = nI (qt_so T n) := qt_ag1 h n hn
  refine br_f (nI_pos hJ) ⟨by decide, hv, ?_⟩
  rw [e8, er, hc, el, es]
  have hJ8 : J / 8 < 2 ^ 31 := by omega
  refine cd_if (nI_ltI hJ8 (by omega)) (fun z => ⟨by decide, nm_e ⟨by decide, nm_e ⟨hv, ?_⟩⟩⟩) (fun z => h0 (fun y => z y.1))
  have h5 := qt_iv5 hI n (J / 8) hn z
  have s90 : ¬ qt_lim T n J → wX_findUnit_90 post (nI n) (nI (J / 8)) (nI (J % 8)) f_active f_epoch a_dataNodeDown a_journalDown a_masterDown a_inTouch a_promise a_base a_logLength a_logEpoch a_logKind a_logA a_logB a_logC a_inodeState a_inodePlace a_inodeClient a_closeUnits a_rowLength a_rowBlock a_blockStamp a_replicaHeld a_replicaStamp a_unitCount a_unitValue := by
    intro hlim
    refine (show vp_in (nI n * 3 + nI (J / 8)) 36 ∧ _ from ?_)
    rw [show nI n * 3 + nI (J / 8) = nI (3 * n + J / 8) from mu_r n 3 (J / 8)]
    refine ⟨vp_in_nI (by omega) (by decide), nm_r (e' := nI (qt_ro T (3 * n + J / 8))) (by rw [nI_clamp (by omega)]; exact qt_ag6 h n (J / 8) hn z) ?_⟩
    generalize hbb : qt_ro T (3 * n + J / 8) = b at h5 h1
    obtain ⟨m, hm⟩ := ls_ex (fun d => rd_g nu st b (qt_sp T b) d = true) 5
    refine xm_firstGoodNode (u := (f_active, f_epoch, a_dataNodeDown, a_journalDown, a_masterDown, a_inTouch, a_promise, a_base, a_logLength, a_logEpoch, a_logKind, a_logA, a_logB, a_logC, a_inodeState, a_inodePlace, a_inodeClient, a_closeUnits, a_rowLength, a_rowBlock, a_blockStamp, a_replicaHeld, a_replicaStamp, a_unitCount, a_unitValue)) h hI hD hb h5 hm ?_
    have hw := rd_fwB (f := rd_g nu st b (qt_sp T b)) h5 hb.2 (n := 5) (by omega)
    by_cases hlt : m < 5
    · rw [ls_vS hlt]
      refine br_f (ix_m1 (by omega)) (xm_fewestUnits (u := (f_active, f_epoch, a_dataNodeDown, a_journalDown, a_masterDown, a_inTouch, a_promise, a_base, a_logLength, a_logEpoch, a_logKind, a_logA, a_logB, a_logC, a_inodeState, a_inodePlace, a_inodeClient, a_closeUnits, a_rowLength, a_rowBlock, a_blockStamp, a_replicaHeld, a_replicaStamp, a_unitCount, a_unitValue)) h hI hD hb h5 (cd_if (qt_NmL (by omega) (by omega)) (fun y => ?_) (fun y => h0 (fun x => ?_))))
      · refine nm_r (mu_r m 16 b) ?_
        rw [show nI (16 * m + b) * 8 + nI (J % 8) = nI (8 * (16 * m + b) + J % 8) from mu_r _ 8 _]
        refine ⟨vp_in_nI (by omega) (by decide), ?_⟩
        rw [nI_clamp (by omega), hD.2.2.2.2]
        exact h1 ⟨z, hlim, by rw [hbb]; exact y⟩ m hlt hm
      · obtain ⟨x1, x2, x3⟩ := x
        rw [hbb] at x3
        exact y x3
    · have e : m = 5 := by have := hm.1; omega
      subst e
      rw [ls_vN]
      refine br_t rfl (h0 (fun x => ?_))
      obtain ⟨x1, x2, x3⟩ := x
      rw [hbb] at x3
      exact hlt (rd_fwX (un := un) (b := b) hm (by omega))
  have s67 : ¬ qt_lim T n J → wX_findUnit_67 post (nI n) (nI (J / 8)) (nI (J % 8)) f_active f_epoch a_dataNodeDown a_journalDown a_masterDown a_inTouch a_promise a_base a_logLength a_logEpoch a_logKind a_logA a_logB a_logC a_inodeState a_inodePlace a_inodeClient a_closeUnits a_rowLength a_rowBlock a_blockStamp a_replicaHeld a_replicaStamp a_unitCount a_unitValue := fun hlim => br_t rfl (s90 hlim)
  refine cd_if (nI_eq (b := 3) (by omega) (by decide)) (fun y => ⟨hv, ?_⟩) (fun y => s67 (fun w => y w.1))
  have ew : a_closeUnits n = nI (qt_cw T n) := qt_ag4 h n hn y
  rw [ew]
  refine cd_if (nI_eq (b := 0) (by omega) (by decide)) (fun x => s67 (fun w => w.2.1 x)) (fun x => ⟨hv, ?_⟩)
  have e1 : nI (qt_rl T n) - 1 = nI (qt_rl T n - 1) := by
    obtain ⟨l, hl⟩ : ∃ l, qt_rl T n = l + 1 := ⟨qt_rl T n - 1, by omega⟩
    rw [hl, nI_pred]; rfl
  rw [e1]
  refine cd_if (nI_eq hJ8 (by omega)) (fun w => br_f bo_1 ⟨hv, ?_⟩) (fun w => s67 (fun v => w v.2.2.1))
  rw [hc, ew]
  exact cd_if (nI_ltI (by omega) (by omega)) (fun v => s90 (fun q => by have := q.2.2.2; omega)) (fun v => h0 (fun q => q.2.1 ⟨y, x, w, by omega⟩))
theorem ym_found {v : SY} (h : sy_T T v) (hI : qt_iv T) (hD : sy_D (nu, st, un, ua) v) (hb : rd_bd (nu, st, un, ua)) {post : Int64 → Prop} {n J : Nat} (hn : n < 12) (hs : 2 ≤ qt_so T n) (hJ : J < 2 ^ 31) (h0 : ¬ rd_fd T nu st un n J → post 10000000000)
    (h1 : rd_fd T nu st un n J → ∀ m, m < 5 → ls_f (fun d => rd_g nu st (qt_ro T (3 * n + J / 8)) (qt_sp T (qt_ro T (3 * n + J / 8))) d = true) 5 m → post (ua (8 * (16 * m + qt_ro T (3 * n + J / 8)) + J % 8)).toInt64) : wpY_found post v (nI n) (nI J) := by
  obtain ⟨f_active, f_epoch, a_nodeUp, a_journalUp, a_masterUp, a_touch, a_log, a_many, a_promise, a_base, a_stamp, a_units, a_unit, a_sort, a_placeOf, a_client, a_rowLength, a_row, a_closedWith, a_stampOf⟩ := v
  unfold wpY_found
  have hv := vp_in_nI hn (by decide : 12 < 2 ^ 31)
  have hc : (nI n).toNatClampNeg = n := nI_clamp (by omega)
  have hr := qt_iv4 hI n hn
  have hcw := qt_iv10 hI n hn
  have hs3 := qt_iv3 hI n hn
  have e8 : nI J / 8 = nI (J / 8) := pk_div (d := 8) hJ (by decide) (by decide)
  have er : nI J - nI (J / 8) * 8 = nI (J % 8) := by
    have := pk_rem (d := 8) hJ (by decide) (by decide)
    rw [show (nI 8) = (8 : Int32) from rfl, e8] at this
    exact this
  have el : a_rowLength n = nI (qt_rl T n) := qt_ag5 h n hn
  have es : a_sort n = nI (qt_so T n) := qt_ag1 h n hn
  refine ym_isFile (v := (f_active, f_epoch, a_nodeUp, a_journalUp, a_masterUp, a_touch, a_log, a_many, a_promise, a_base, a_stamp, a_units, a_unit, a_sort, a_placeOf, a_client, a_rowLength, a_row, a_closedWith, a_stampOf)) h hI (n := n) (Or.inl ⟨hn, rfl⟩) (fun _ _ => br_f bo_1 (br_f (nI_pos hJ) ⟨by decide, hv, ?_⟩)) (fun z => absurd (z hn) (by omega))
  rw [e8, er, hc, el, es]
  have hJ8 : J / 8 < 2 ^ 31 := by omega
  refine cd_if (nI_ltI hJ8 (by omega)) (fun z => ⟨by decide, ?_⟩) (fun z => h0 (fun y => z y.1))
  have h5 := qt_iv5 hI n (J / 8) hn z
  rw [show 3 * nI n + nI (J / 8) = nI (3 * n + J / 8) from mu_l n 3 (J / 8)]
  refine ⟨vp_in_nI (by omega) (by decide), nm_r (e' := nI (qt_ro T (3 * n + J / 8))) (by rw [nI_clamp (by omega)]; exact qt_ag6 h n (J / 8) hn z) ?_⟩
  have hin : qt_in (qt_rl T) (qt_ro T) (qt_ro T (3 * n + J / 8)) := ⟨n, J / 8, hn, z, rfl⟩
  generalize hbb : qt_ro T (3 * n + J / 8) = b at h5 h1 hin
  obtain ⟨m, hm⟩ := ls_ex (fun d => rd_g nu st b (qt_sp T b) d = true) 5
  refine ym_first (v := (f_active, f_epoch, a_nodeUp, a_journalUp, a_masterUp, a_touch, a_log, a_many, a_promise, a_base, a_stamp, a_units, a_unit, a_sort, a_placeOf, a_client, a_rowLength, a_row, a_closedWith, a_stampOf)) h hI hD hb h5 hin hm ?_
  have hw := rd_fwB (f := rd_g nu st b (qt_sp T b)) h5 hb.2 (n := 5) (by omega)
  by_cases hlt : m < 5
  · rw [ls_vS hlt]
    refine br_f (nI_pos (by omega)) (ym_bound0 (v := (f_active, f_epoch, a_nodeUp, a_journalUp, a_masterUp, a_touch, a_log, a_many, a_promise, a_base, a_stamp, a_units, a_unit, a_sort, a_placeOf, a_client, a_rowLength, a_row, a_closedWith, a_stampOf)) h hI hD hb h5 hin ⟨by decide, cd_if (qt_NmL (by omega) (by omega)) (fun y => ⟨hv, ?_⟩) (fun y => h0 (fun x => ?_))⟩)
    · have s137 : ¬ qt_lim T n J → wY_found_137 post (nI J) (nI b) (nI m) f_active f_epoch a_nodeUp a_journalUp a_masterUp a_touch a_log a_many a_promise a_base a_stamp a_units a_unit a_sort a_placeOf a_client a_rowLength a_row a_closedWith a_stampOf := by
        intro hlim
        refine ⟨by decide, ?_⟩
        rw [e8, er, show 16 * nI m + nI b = nI (16 * m + b) from mu_l m 16 b, show 8 * nI (16 * m + b) + nI (J % 8) = nI (8 * (16 * m + b) + J % 8) from mu_l _ 8 _]
        refine ⟨vp_in_nI (by omega) (by decide), ?_⟩
        rw [nI_clamp (by omega), hD.2.2.2]
        exact h1 ⟨z, hlim, by rw [hbb]; exact y⟩ m hlt hm
      have s110 : ¬ qt_lim T n J → wY_found_110 post (nI n) (nI J) (nI b) (nI m) f_active f_epoch a_nodeUp a_journalUp a_masterUp a_touch a_log a_many a_promise a_base a_stamp a_units a_unit a_sort a_placeOf a_client a_rowLength a_row a_closedWith a_stampOf := fun hlim => br_t rfl (s137 hlim)
      have e1 : nI (qt_rl T n) - 1 = nI (qt_rl T n - 1) := by
        obtain ⟨l, hl⟩ : ∃ l, qt_rl T n = l + 1 := ⟨qt_rl T n - 1, by omega⟩
        rw [hl, nI_pred]; rfl
      rw [e1]
      refine cd_if (nI_eq (b := 3) (by omega) (by decide)) (fun y => ⟨by decide, hv, cd_if (nI_eq hJ8 (by omega)) (fun w => ⟨hv, ?_⟩) (fun w => s110 (fun v => w v.2.2.1))⟩) (fun y => s110 (fun w => y w.1))
      have ew : a_closedWith n = nI (qt_cw T n) := qt_ag4 h n hn y
      rw [ew]
      refine cd_if (nI_eq (b := 0) (by omega) (by decide)) (fun x => s110 (fun w => w.2.1 x)) (fun x => br_f bo_1 ⟨by decide, hv, ?_⟩)
      rw [e8, er, hc, ew]
      exact cd_if (nI_ltI (by omega) (by omega)) (fun v => s137 (fun q => by have := q.2.2.2; omega)) (fun v => h0 (fun q => q.2.1 ⟨y, x, w, by omega⟩))
    · obtain ⟨x1, x2, x3⟩ := x
      rw [hbb] at x3
      exact y x3
  · have e : m = 5 := by have := hm.1; omega
    subst e
    rw [ls_vN]
    refine br_t (by decide) (h0 (fun x => ?_))
    obtain ⟨x1, x2, x3⟩ := x
    rw [hbb] at x3
    exact hlt (rd_fwX (un := un) (b := b) hm (by omega))
end
theorem i_vc_read {k : Nat} {u : SX} {v : SY} (I : i_Rel k u v) (hk : k + 4 ≤ 2048) (v1 : Int32) (v2 : Int32) : wpX_read (fun r => wpY_read (fun r' v' => r' = r ∧ i_Rel (k + 4) u v') v v1 v2) u v1 v2 := by
  have I' := i_up I
  obtain ⟨T, ⟨mu, ju, ac, ep, to, pr, ba, le, lg⟩, ⟨nu, st, un, ua⟩, h1, h2, h3, h4, h5, h6, h7, h8⟩ := I
  have hb := rl_bd h7 (by omega) h8
  have i5 := h7.2.2.2.2.1
  have R0 : ∀ v', sy_L (mu, ju, ac, ep, to, pr, ba, le, lg) v' → sy_D (nu, st, un, ua) v' → i_Rel (k + 4) u v' := fun v' g1 g2 => ⟨T, _, _, h1, h2, h3, g1, g2, h6, lj_ivK (by omega) h7, h8⟩
  obtain ⟨n, hn⟩ := ix_e v1 (N := 12) (by decide)
  have Y : ∀ r, (ac = 0 → (10000000000 : Int64) = r) → (0 < ac → ∀ v', sy_T T v' → sy_L (mu, ju, ac, ep, to, pr, ba, le, lg) v' → sy_D (nu, st, un, ua) v' → wpY_found (fun r' => r' = r ∧ i_Rel (k + 4) u v') v' v1 v2) → wpY_read (fun r' v' => r' = r ∧ i_Rel (k + 4) u v') v v1 v2 := by
    intro r a1 a2
    obtain ⟨f_active, f_epoch, a_nodeUp, a_journalUp, a_masterUp, a_touch, a_log, a_many, a_promise, a_base, a_stamp, a_units, a_unit, a_sort, a_placeOf, a_client, a_rowLength, a_row, a_closedWith, a_stampOf⟩ := v
    refine cd_if (ym_act h4.1 h7.2.1) (fun ha => ym_tell (v := (f_active, f_epoch, a_nodeUp, a_journalUp, a_masterUp, a_touch, a_log, a_many, a_promise, a_base, a_stamp, a_units, a_unit, a_sort, a_placeOf, a_client, a_rowLength, a_row, a_closedWith, a_stampOf)) h4 h5 (fun j hj => ⟨(i5 j hj).1, (i5 j hj).2.2.2⟩) ?_) (fun za => ⟨a1 (by omega), I'⟩)
    rintro ⟨f_active, f_epoch, a_nodeUp, a_journalUp, a_masterUp, a_touch, a_log, a_many, a_promise, a_base, a_stamp, a_units, a_unit, a_sort, a_placeOf, a_client, a_rowLength, a_row, a_closedWith, a_stampOf⟩ gT gL gD
    rw [← (h7.2.2.2.2.2 ha).2.2] at gT
    exact a2 ha _ gT gL gD
  generalize hpost : (fun r => wpY_read (fun r' v' => r' = r ∧ i_Rel (k + 4) u v') v v1 v2) = post
  have Y' : ∀ r, (ac = 0 → (10000000000 : Int64) = r) → (0 < ac → ∀ v', sy_T T v' → sy_L (mu, ju, ac, ep, to, pr, ba, le, lg) v' → sy_D (nu, st, un, ua) v' → wpY_found (fun r' => r' = r ∧ i_Rel (k + 4) u v') v' v1 v2) → post r := by
    intro r a b
    rw [← hpost]; exact Y r a b
  have YN : ∀ v', sy_T T v' → sy_L (mu, ju, ac, ep, to, pr, ba, le, lg) v' → sy_D (nu, st, un, ua) v' → (n < 12 → qt_so T n < 2) → wpY_found (fun r' => r' = 10000000000 ∧ i_Rel (k + 4) u v') v' v1 v2 := by
    rintro ⟨f_active, f_epoch, a_nodeUp, a_journalUp, a_masterUp, a_touch, a_log, a_many, a_promise, a_base, a_stamp, a_units, a_unit, a_sort, a_placeOf, a_client, a_rowLength, a_row, a_closedWith, a_stampOf⟩ gT gL gD hs
    unfold wpY_found
    exact ym_isFile (v := (f_active, f_epoch, a_nodeUp, a_journalUp, a_masterUp, a_touch, a_log, a_many, a_promise, a_base, a_stamp, a_units, a_unit, a_sort, a_placeOf, a_client, a_rowLength, a_row, a_closedWith, a_stampOf)) gT h6 hn (fun a b => absurd (hs a) (by omega)) (fun _ => br_t rfl ⟨rfl, R0 _ gL gD⟩)
  clear Y
  obtain ⟨f_active, f_epoch, a_dataNodeDown, a_journalDown, a_masterDown, a_inTouch, a_promise, a_base, a_logLength, a_logEpoch, a_logKind, a_logA, a_logB, a_logC, a_inodeState, a_inodePlace, a_inodeClient, a_closeUnits, a_rowLength, a_rowBlock, a_blockStamp, a_replicaHeld, a_replicaStamp, a_unitCount, a_unitValue⟩ := u
  refine cd_if (xm_act h2.1 h7.2.1) (fun za => Y' _ (fun _ => rfl) (fun z => by omega)) (fun za => ?_)
  have ha : 0 < ac := by omega
  refine xm_isFile (u := (f_active, f_epoch, a_dataNodeDown, a_journalDown, a_masterDown, a_inTouch, a_promise, a_base, a_logLength, a_logEpoch, a_logKind, a_logA, a_logB, a_logC, a_inodeState, a_inodePlace, a_inodeClient, a_closeUnits, a_rowLength, a_rowBlock, a_blockStamp, a_replicaHeld, a_replicaStamp, a_unitCount, a_unitValue)) h1 h6 hn (fun hlt hs => br_f bo_1 ?_) (fun hs => br_t rfl (Y' _ (fun z => by omega) (fun _ v' g1 g2 g3 => YN v' g1 g2 g3 hs)))
  have e := ix_i hn hlt
  subst e
  by_cases hneg : v2 < 0
  · refine (show wpX_findUnit _ (f_active, f_epoch, a_dataNodeDown, a_journalDown, a_masterDown, a_inTouch, a_promise, a_base, a_logLength, a_logEpoch, a_logKind, a_logA, a_logB, a_logC, a_inodeState, a_inodePlace, a_inodeClient, a_closeUnits, a_rowLength, a_rowBlock, a_blockStamp, a_replicaHeld, a_replicaStamp, a_unitCount, a_unitValue) (nI n) v2 from br_t hneg (Y' _ (fun z => by omega) (fun _ v' g1 g2 g3 => ?_)))
    obtain ⟨f_active, f_epoch, a_nodeUp, a_journalUp, a_masterUp, a_touch, a_log, a_many, a_promise, a_base, a_stamp, a_units, a_unit, a_sort, a_placeOf, a_client, a_rowLength, a_row, a_closedWith, a_stampOf⟩ := v'
    unfold wpY_found
    exact ym_isFile (v := (f_active, f_epoch, a_nodeUp, a_journalUp, a_masterUp, a_touch, a_log, a_many, a_promise, a_base, a_stamp, a_units, a_unit, a_sort, a_placeOf, a_client, a_rowLength, a_row, a_closedWith, a_stampOf)) g1 h6 hn (fun _ _ => br_f bo_1 (br_t hneg ⟨rfl, R0 _ g2 g3⟩)) (fun z => br_t rfl ⟨rfl, R0 _ g2 g3⟩)
  · obtain ⟨J, hJ, rfl⟩ := nI_of hneg
    refine xm_findUnit (u := (f_active, f_epoch, a_dataNodeDown, a_journalDown, a_masterDown, a_inTouch, a_promise, a_base, a_logLength, a_logEpoch, a_logKind, a_logA, a_logB, a_logC, a_inodeState, a_inodePlace, a_inodeClient, a_closeUnits, a_rowLength, a_rowBlock, a_blockStamp, a_replicaHeld, a_replicaStamp, a_unitCount, a_unitValue)) h1 h6 h3 hb hlt hJ (fun z => Y' _ (fun z => by omega) (fun _ v' g1 g2 g3 => ym_found g1 h6 g3 hb hlt hs hJ (fun _ => ⟨rfl, R0 _ g2 g3⟩) (fun y => absurd y z))) (fun z m hm1 hm => Y' _ (fun z => by omega) (fun _ v' g1 g2 g3 => ym_found g1 h6 g3 hb hlt hs hJ (fun y => absurd z y) (fun _ m' hm1' hm' => ⟨?_, R0 _ g2 g3⟩)))
    have e : m' = m := by
      by_cases l1 : m' < m
      · exact absurd (hm'.2.2 hm1') (hm.2.1 m' l1)
      · by_cases l2 : m < m'
        · exact absurd (hm.2.2 hm1) (hm'.2.1 m l2)
        · omega
    rw [e]
