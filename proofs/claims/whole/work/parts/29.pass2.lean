/-! pass: both in step -/
theorem rl_pass {T : qt_T} {mu ju : Nat → Bool} {ac ep : Nat} {to : Nat → Bool} {pr ba le : Nat → Nat} {lg : Nat → Nat → qt_R} {nu : Nat → Bool} {st : Nat → Nat} (hI : qt_iv T) {N : Nat} (hN : N ≤ 32) (hst : ∀ c, c < 80 → st c ≤ 2000000) : ∀ m done (un : Nat → Nat) (ua : Nat → Int32), done + m = N → (∀ c, c < 80 → un c ≤ 8) → ∃ (r : Nat) (un' : Nat → Nat) (ua' : Nat → Int32), (∀ c, c < 80 → un' c ≤ 8)
    ∧ (∀ (post : Int32 → SX → Prop) f_active f_epoch a_dataNodeDown a_journalDown a_masterDown a_inTouch a_promise a_base a_logLength a_logEpoch a_logKind a_logA a_logB a_logC a_inodeState a_inodePlace a_inodeClient a_closeUnits a_rowLength a_rowBlock a_blockStamp a_replicaHeld a_replicaStamp a_unitCount a_unitValue, sx_T T (f_active, f_epoch, a_dataNodeDown, a_journalDown, a_masterDown, a_inTouch, a_promise, a_base, a_logLength, a_logEpoch, a_logKind, a_logA, a_logB, a_logC, a_inodeState, a_inodePlace, a_inodeClient, a_closeUnits, a_rowLength, a_rowBlock, a_blockStamp, a_replicaHeld, a_replicaStamp, a_unitCount, a_unitValue) → sx_L (mu, ju, ac, ep, to, pr, ba, le, lg) (f_active, f_epoch, a_dataNodeDown, a_journalDown, a_masterDown, a_inTouch, a_promise, a_base, a_logLength, a_logEpoch, a_logKind, a_logA, a_logB, a_logC, a_inodeState, a_inodePlace, a_inodeClient, a_closeUnits, a_rowLength, a_rowBlock, a_blockStamp, a_replicaHeld, a_replicaStamp, a_unitCount, a_unitValue) → sx_D (nu, st, un, ua) (f_active, f_epoch, a_dataNodeDown, a_journalDown, a_masterDown, a_inTouch, a_promise, a_base, a_logLength, a_logEpoch, a_logKind, a_logA, a_logB, a_logC, a_inodeState, a_inodePlace, a_inodeClient, a_closeUnits, a_rowLength, a_rowBlock, a_blockStamp, a_replicaHeld, a_replicaStamp, a_unitCount, a_unitValue) → (∀ u', sx_T T u' → sx_L (mu, ju, ac, ep, to, pr, ba, le, lg) u' → sx_D (nu, st, un', ua') u' → post (nI r) u') → ∀ n, m < n → wX_pass_25 post (nI N) n (nI done) f_active f_epoch a_dataNodeDown a_journalDown a_masterDown a_inTouch a_promise a_base a_logLength a_logEpoch a_logKind a_logA a_logB a_logC a_inodeState a_inodePlace a_inodeClient a_closeUnits a_rowLength a_rowBlock a_blockStamp a_replicaHeld a_replicaStamp a_unitCount a_unitValue)
    ∧ (∀ (post : Int32 → SY → Prop) f_active f_epoch a_nodeUp a_journalUp a_masterUp a_touch a_log a_many a_promise a_base a_stamp a_units a_unit a_sort a_placeOf a_client a_rowLength a_row a_closedWith a_stampOf, sy_T T (f_active, f_epoch, a_nodeUp, a_journalUp, a_masterUp, a_touch, a_log, a_many, a_promise, a_base, a_stamp, a_units, a_unit, a_sort, a_placeOf, a_client, a_rowLength, a_row, a_closedWith, a_stampOf) → sy_L (mu, ju, ac, ep, to, pr, ba, le, lg) (f_active, f_epoch, a_nodeUp, a_journalUp, a_masterUp, a_touch, a_log, a_many, a_promise, a_base, a_stamp, a_units, a_unit, a_sort, a_placeOf, a_client, a_rowLength, a_row, a_closedWith, a_stampOf) → sy_D (nu, st, un, ua) (f_active, f_epoch, a_nodeUp, a_journalUp, a_masterUp, a_touch, a_log, a_many, a_promise, a_base, a_stamp, a_units, a_unit, a_sort, a_placeOf, a_client, a_rowLength, a_row, a_closedWith, a_stampOf) → (∀ v', sy_L (mu, ju, ac, ep, to, pr, ba, le, lg) v' → sy_D (nu, st, un', ua') v' → post (nI r) v') → ∀ n, m + 1 < n → wY_pass_38 post (nI N) n (nI done) (if done < N then 1 else 0) f_active f_epoch a_nodeUp a_journalUp a_masterUp a_touch a_log a_many a_promise a_base a_stamp a_units a_unit a_sort a_placeOf a_client a_rowLength a_row a_closedWith a_stampOf) := by
  intro m
  induction m with
  | zero =>
    intro done un ua hd hu
    refine ⟨done, un, ua, hu, ?_, ?_⟩
    · intro post f_active f_epoch a_dataNodeDown a_journalDown a_masterDown a_inTouch a_promise a_base a_logLength a_logEpoch a_logKind a_logA a_logB a_logC a_inodeState a_inodePlace a_inodeClient a_closeUnits a_rowLength a_rowBlock a_blockStamp a_replicaHeld a_replicaStamp a_unitCount a_unitValue h hL hD hp n hn
      obtain ⟨n, rfl⟩ : ∃ n', n = n' + 1 := ⟨n - 1, by omega⟩
      have e : done = N := by omega
      subst e
      exact br_t lb_t (hp _ h hL hD)
    · intro post f_active f_epoch a_nodeUp a_journalUp a_masterUp a_touch a_log a_many a_promise a_base a_stamp a_units a_unit a_sort a_placeOf a_client a_rowLength a_row a_closedWith a_stampOf h hL hD hp n hn
      obtain ⟨n, rfl⟩ : ∃ n', n = n' + 1 := ⟨n - 1, by omega⟩
      rw [if_neg (by omega)]
      exact br_t rfl (hp _ hL hD)
  | succ m ih =>
    intro done un ua hd hu
    have hb : rd_bd (nu, st, un, ua) := ⟨hst, hu⟩
    by_cases hex : ∃ b, b < 16 ∧ rd_pg T nu st un b
    · obtain ⟨b, ⟨hb16, hpg⟩, hbl⟩ := pk_least (fun b => b < 16 ∧ rd_pg T nu st un b) hex
      obtain ⟨ho, hxd⟩ := hpg
      obtain ⟨d, ⟨hd5, hpd⟩, hdl⟩ := pk_least (fun d => d < 5 ∧ rd_pd (rd_g nu st b (qt_sp T b)) un b d) hxd
      have hle : rd_lo (rd_g nu st b (qt_sp T b)) d ≤ d := by rcases rd_loP (f := rd_g nu st b (qt_sp T b)) (n := d) with y | y <;> omega
      have hu1 := hu (16 * (rd_lo (rd_g nu st b (qt_sp T b)) d - 1) + b) (by omega)
      have hpd2 := hpd.2.2
      obtain ⟨r, un', ua', g0, gX, gY⟩ := ih (done + 1) (qt_u un (16 * d + b) (un (16 * d + b) + 1)) (upd ua (8 * (16 * d + b) + un (16 * d + b)) (ua (8 * (16 * (rd_lo (rd_g nu st b (qt_sp T b)) d - 1) + b) + un (16 * d + b)))) (by omega) (by
        intro c hc
        by_cases z : c = 16 * d + b
        · subst z; rw [qt_us]; omega
        · rw [qt_un z]; exact hu c hc)
      have same : ∀ b' d', b' < 16 → d' < 5 → qt_ol T b' → (∀ e, e < b' → ¬ rd_pg T nu st un e) → rd_pd (rd_g nu st b' (qt_sp T b')) un b' d' → (∀ e, e < d' → ¬ rd_pd (rd_g nu st b' (qt_sp T b')) un b' e) → b' = b ∧ d' = d := by
        intro b' d' h1 h2 h3 h4 h5 h6
        have e : b' = b := by
          by_cases l1 : b' < b
          · exact absurd ⟨h1, h3, d', h2, h5⟩ (hbl b' l1)
          · by_cases l2 : b < b'
            · exact absurd ⟨ho, d, hd5, hpd⟩ (h4 b l2)
            · omega
        subst e
        refine ⟨rfl, ?_⟩
        by_cases l1 : d' < d
        · exact absurd ⟨h2, h5⟩ (hdl d' l1)
        · by_cases l2 : d < d'
          · exact absurd hpd (h6 d l2)
          · omega
      refine ⟨r, un', ua', g0, ?_, ?_⟩
      · intro post f_active f_epoch a_dataNodeDown a_journalDown a_masterDown a_inTouch a_promise a_base a_logLength a_logEpoch a_logKind a_logA a_logB a_logC a_inodeState a_inodePlace a_inodeClient a_closeUnits a_rowLength a_rowBlock a_blockStamp a_replicaHeld a_replicaStamp a_unitCount a_unitValue h hL hD hp n hn
        obtain ⟨n, rfl⟩ : ∃ n', n = n' + 1 := ⟨n - 1, by omega⟩
        refine br_f (lb_f (by omega) (by omega)) (xm_passOne (u := (f_active, f_epoch, a_dataNodeDown, a_journalDown, a_masterDown, a_inTouch, a_promise, a_base, a_logLength, a_logEpoch, a_logKind, a_logA, a_logB, a_logC, a_inodeState, a_inodePlace, a_inodeClient, a_closeUnits, a_rowLength, a_rowBlock, a_blockStamp, a_replicaHeld, a_replicaStamp, a_unitCount, a_unitValue)) h hI hL hD hb (fun z => absurd ⟨ho, d, hd5, hpd⟩ (z b hb16)) (fun b' d' h1 h2 h3 h4 h5 h6 => ?_))
        obtain ⟨rfl, rfl⟩ := same b' d' h1 h2 h3 h4 h5 h6
        rintro ⟨f_active, f_epoch, a_dataNodeDown, a_journalDown, a_masterDown, a_inTouch, a_promise, a_base, a_logLength, a_logEpoch, a_logKind, a_logA, a_logB, a_logC, a_inodeState, a_inodePlace, a_inodeClient, a_closeUnits, a_rowLength, a_rowBlock, a_blockStamp, a_replicaHeld, a_replicaStamp, a_unitCount, a_unitValue⟩ k1 k2 k3
        exact br_f bo_1 (nm_r (nI_1 done) (gX post _ _ _ _ _ _ _ _ _ _ _ _ _ _ _ _ _ _ _ _ _ _ _ _ _ k1 k2 k3 hp n (by omega)))
      · intro post f_active f_epoch a_nodeUp a_journalUp a_masterUp a_touch a_log a_many a_promise a_base a_stamp a_units a_unit a_sort a_placeOf a_client a_rowLength a_row a_closedWith a_stampOf h hL hD hp n hn
        obtain ⟨n, rfl⟩ : ∃ n', n = n' + 1 := ⟨n - 1, by omega⟩
        rw [if_pos (by omega)]
        refine br_f bo_1 (ym_passOne (v := (f_active, f_epoch, a_nodeUp, a_journalUp, a_masterUp, a_touch, a_log, a_many, a_promise, a_base, a_stamp, a_units, a_unit, a_sort, a_placeOf, a_client, a_rowLength, a_row, a_closedWith, a_stampOf)) h hI hL hD hb (fun z => absurd ⟨ho, d, hd5, hpd⟩ (z b hb16)) (fun b' d' h1 h2 h3 h4 h5 h6 => ?_))
        obtain ⟨rfl, rfl⟩ := same b' d' h1 h2 h3 h4 h5 h6
        rintro ⟨f_active, f_epoch, a_nodeUp, a_journalUp, a_masterUp, a_touch, a_log, a_many, a_promise, a_base, a_stamp, a_units, a_unit, a_sort, a_placeOf, a_client, a_rowLength, a_row, a_closedWith, a_stampOf⟩ k1 k2 k3
        have K := gY post _ _ _ _ _ _ _ _ _ _ _ _ _ _ _ _ _ _ _ _ k1 k2 k3 hp n (by omega)
        refine br_f bo_1 (nm_r (nI_1 done) (br_f bo_1 (cd_if (nI_leI (by omega) (by omega)) (fun z => ?_) (fun z => ?_))))
        · rw [if_neg (by omega)] at K; exact K
        · rw [if_pos (by omega)] at K; exact K
    · refine ⟨done, un, ua, hu, ?_, ?_⟩
      · intro post f_active f_epoch a_dataNodeDown a_journalDown a_masterDown a_inTouch a_promise a_base a_logLength a_logEpoch a_logKind a_logA a_logB a_logC a_inodeState a_inodePlace a_inodeClient a_closeUnits a_rowLength a_rowBlock a_blockStamp a_replicaHeld a_replicaStamp a_unitCount a_unitValue h hL hD hp n hn
        obtain ⟨n, rfl⟩ : ∃ n', n = n' + 1 := ⟨n - 1, by omega⟩
        exact br_f (lb_f (by omega) (by omega)) (xm_passOne (u := (f_active, f_epoch, a_dataNodeDown, a_journalDown, a_masterDown, a_inTouch, a_promise, a_base, a_logLength, a_logEpoch, a_logKind, a_logA, a_logB, a_logC, a_inodeState, a_inodePlace, a_inodeClient, a_closeUnits, a_rowLength, a_rowBlock, a_blockStamp, a_replicaHeld, a_replicaStamp, a_unitCount, a_unitValue)) h hI hL hD hb (fun _ => br_t rfl (hp _ h hL hD)) (fun b' d' h1 h2 h3 h4 h5 h6 => absurd ⟨b', h1, h3, d', h2, h5⟩ hex))
      · intro post f_active f_epoch a_nodeUp a_journalUp a_masterUp a_touch a_log a_many a_promise a_base a_stamp a_units a_unit a_sort a_placeOf a_client a_rowLength a_row a_closedWith a_stampOf h hL hD hp n hn
        obtain ⟨n, rfl⟩ : ∃ n', n = n' + 1 := ⟨n - 1, by omega⟩
        obtain ⟨n, rfl⟩ : ∃ n', n = n' + 1 := ⟨n - 1, by omega⟩
        rw [if_pos (by omega)]
        exact br_f bo_1 (ym_passOne (v := (f_active, f_epoch, a_nodeUp, a_journalUp, a_masterUp, a_touch, a_log, a_many, a_promise, a_base, a_stamp, a_units, a_unit, a_sort, a_placeOf, a_client, a_rowLength, a_row, a_closedWith, a_stampOf)) h hI hL hD hb (fun _ => br_t rfl (br_t rfl (br_t rfl (hp _ hL hD)))) (fun b' d' h1 h2 h3 h4 h5 h6 => absurd ⟨b', h1, h3, d', h2, h5⟩ hex))
theorem i_vc_pass {k : Nat} {u : SX} {v : SY} (I : i_Rel k u v) (hk : k + 4 ≤ 2048) (v1 : Int32) : wpX_pass (fun r u' => wpY_pass (fun r' v' => r' = r ∧ i_Rel (k + 4) u' v') v v1) u v1 := by
  have I' := i_up I
  obtain ⟨T, ⟨mu, ju, ac, ep, to, pr, ba, le, lg⟩, ⟨nu, st, un, ua⟩, h1, h2, h3, h4, h5, h6, h7, h8⟩ := I
  have hb := rl_bd h7 (by omega) h8
  have i5 := h7.2.2.2.2.1
  generalize hR : i_Rel (k + 4) = R at I'
  obtain ⟨f_active, f_epoch, a_dataNodeDown, a_journalDown, a_masterDown, a_inTouch, a_promise, a_base, a_logLength, a_logEpoch, a_logKind, a_logA, a_logB, a_logC, a_inodeState, a_inodePlace, a_inodeClient, a_closeUnits, a_rowLength, a_rowBlock, a_blockStamp, a_replicaHeld, a_replicaStamp, a_unitCount, a_unitValue⟩ := u
  obtain ⟨g_active, g_epoch, a_nodeUp, a_journalUp, a_masterUp, a_touch, a_log, a_many, b_promise, b_base, a_stamp, a_units, a_unit, a_sort, a_placeOf, a_client, b_rowLength, a_row, a_closedWith, a_stampOf⟩ := v
  refine cd_if (xm_act h2.1 h7.2.1) (fun za => ?_) (fun za => ?_)
  · exact br_f (fun z => by have := (ym_act h4.1 h7.2.1).mp z; omega) ⟨rfl, I'⟩
  · have ya : 0 ≤ g_active := (ym_act h4.1 h7.2.1).mpr (by omega)
    refine cd_if Iff.rfl (fun z => br_t ya (br_t z ⟨rfl, I'⟩)) (fun z => cd_if Iff.rfl (fun y => ?_) (fun y => br_t ya (br_f z (br_f y ⟨rfl, I'⟩))))
    obtain ⟨N, hN, rfl⟩ := nI_of z
    have hN32 : N ≤ 32 := (nI_leI (b := 32) hN (by decide)).mp y
    obtain ⟨r, un', ua', g0, gX, gY⟩ := rl_pass (mu := mu) (ju := ju) (ac := ac) (ep := ep) (to := to) (pr := pr) (ba := ba) (le := le) (lg := lg) (nu := nu) (st := st) h6 hN32 hb.1 N 0 un ua (by omega) hb.2
    refine ⟨N + 1, gX _ _ _ _ _ _ _ _ _ _ _ _ _ _ _ _ _ _ _ _ _ _ _ _ _ _ h1 h2 h3 (fun u' k1 k2 k3 => ?_) (N + 1) (by omega)⟩
    refine br_t ya (br_f z (br_t y (ym_tell h4 h5 (fun j hj => ⟨(i5 j hj).1, (i5 j hj).2.2.2⟩) ?_)))
    rintro ⟨f_active, f_epoch, a_nodeUp, a_journalUp, a_masterUp, a_touch, a_log, a_many, a_promise, a_base, a_stamp, a_units, a_unit, a_sort, a_placeOf, a_client, a_rowLength, a_row, a_closedWith, a_stampOf⟩ gT gL gD
    rw [← (h7.2.2.2.2.2 (by omega)).2.2] at gT
    have K := gY (fun r' v' => r' = nI r ∧ R u' v') _ _ _ _ _ _ _ _ _ _ _ _ _ _ _ _ _ _ _ _ gT gL gD (fun v' m1 m2 => ⟨rfl, by rw [← hR]; exact ⟨T, _, _, k1, k2, k3, m1, m2, h6, lj_ivK (by omega) h7, ⟨h8.1, g0⟩⟩⟩) (N + 2) (by omega)
    refine cd_if (nI_leI (b := 0) hN (by decide)) (fun w => ⟨N + 2, ?_⟩) (fun w => ⟨N + 2, ?_⟩)
    · rw [if_neg (by omega)] at K; exact K
    · rw [if_pos (by omega)] at K; exact K
