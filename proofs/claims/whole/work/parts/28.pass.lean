/-! pass -/
def rd_lv (f : Nat → Bool) (b d : Nat) : Int32 := if rd_lo f d = 0 then -1 else nI (16 * (rd_lo f d - 1) + b)
theorem rd_lvT {f : Nat → Bool} {b d : Nat} (h : f d = true) : rd_lv f b (d + 1) = nI (16 * d + b) := by
  unfold rd_lv
  rw [rd_loS, if_pos h, if_neg (by omega)]; rfl
theorem rd_lvF {f : Nat → Bool} {b d : Nat} (h : f d = false) : rd_lv f b (d + 1) = rd_lv f b d := by
  unfold rd_lv
  have e : rd_lo f (d + 1) = rd_lo f d := by rw [rd_loS, h]; rfl
  rw [e]
section
variable {T : qt_T} {mu ju : Nat → Bool} {ac ep : Nat} {to : Nat → Bool} {pr ba le : Nat → Nat} {lg : Nat → Nat → qt_R} {nu : Nat → Bool} {st un : Nat → Nat} {ua : Nat → Int32}
theorem xm_putUnit {u : SX} (h : sx_T T u) (hL : sx_L (mu, ju, ac, ep, to, pr, ba, le, lg) u) (hD : sx_D (nu, st, un, ua) u) {post : SX → Prop} {c : Nat} {x : Int32} (hc : c < 80) (hu : un c < 8) (hp : ∀ u', sx_T T u' → sx_L (mu, ju, ac, ep, to, pr, ba, le, lg) u' → sx_D (nu, st, qt_u un c (un c + 1), upd ua (8 * c + un c) x) u' → post u') : wpX_putUnit post u (nI c) x := by
  obtain ⟨f_active, f_epoch, a_dataNodeDown, a_journalDown, a_masterDown, a_inTouch, a_promise, a_base, a_logLength, a_logEpoch, a_logKind, a_logA, a_logB, a_logC, a_inodeState, a_inodePlace, a_inodeClient, a_closeUnits, a_rowLength, a_rowBlock, a_blockStamp, a_replicaHeld, a_replicaStamp, a_unitCount, a_unitValue⟩ := u
  obtain ⟨l1, l2, l3, l4, l5, l6, l7, l8, l9⟩ := hL
  obtain ⟨d1, d2, d3, d4, d5⟩ := hD
  have h' : qt_ag True T a_inodeState a_inodePlace a_inodeClient a_closeUnits a_rowLength a_rowBlock a_blockStamp := h
  have hv := vp_in_nI hc (by decide : 80 < 2 ^ 31)
  have hcc : (nI c).toNatClampNeg = c := nI_clamp (by omega)
  refine ⟨hv, ?_⟩
  rw [hcc, d4 c hc, show nI c * 8 + nI (un c) = nI (8 * c + un c) from mu_r c 8 (un c), show (nI (8 * c + un c)).toNatClampNeg = 8 * c + un c from nI_clamp (by omega), nI_1]
  refine br_f (lb_f hu) ⟨hv, vp_in_nI (by omega) (by decide), nm_e ⟨hv, hv, nm_e (hp _ h' ⟨l1, l2, l3, l4, l5, l6, l7, l8, l9⟩ ⟨d1, d2, d3, ?_, ?_⟩)⟩⟩
  · intro j hj
    by_cases z : j = c
    · subst z; rw [pk_us, qt_us]
    · rw [pk_un z, qt_un z]; exact d4 j hj
  · rw [d5]
theorem xm_passUnitWithin {u : SX} (h : sx_T T u) (hI : qt_iv T) (hL : sx_L (mu, ju, ac, ep, to, pr, ba, le, lg) u) (hD : sx_D (nu, st, un, ua) u) (hb : rd_bd (nu, st, un, ua)) {post : Int32 → SX → Prop} {b : Nat} (hb16 : b < 16) (h0 : (∀ d, d < 5 → ¬ rd_pd (rd_g nu st b (qt_sp T b)) un b d) → post 0 u)
    (h1 : ∀ d, d < 5 → rd_pd (rd_g nu st b (qt_sp T b)) un b d → (∀ e, e < d → ¬ rd_pd (rd_g nu st b (qt_sp T b)) un b e) → ∀ u', sx_T T u' → sx_L (mu, ju, ac, ep, to, pr, ba, le, lg) u' → sx_D (rd_ps (nu, st, un, ua) b d (rd_lo (rd_g nu st b (qt_sp T b)) d - 1)) u' → post 1 u') : wpX_passUnitWithin post u (nI b) := by
  obtain ⟨f_active, f_epoch, a_dataNodeDown, a_journalDown, a_masterDown, a_inTouch, a_promise, a_base, a_logLength, a_logEpoch, a_logKind, a_logA, a_logB, a_logC, a_inodeState, a_inodePlace, a_inodeClient, a_closeUnits, a_rowLength, a_rowBlock, a_blockStamp, a_replicaHeld, a_replicaStamp, a_unitCount, a_unitValue⟩ := u
  unfold wpX_passUnitWithin
  refine xm_goodNodes (u := (f_active, f_epoch, a_dataNodeDown, a_journalDown, a_masterDown, a_inTouch, a_promise, a_base, a_logLength, a_logEpoch, a_logKind, a_logA, a_logB, a_logC, a_inodeState, a_inodePlace, a_inodeClient, a_closeUnits, a_rowLength, a_rowBlock, a_blockStamp, a_replicaHeld, a_replicaStamp, a_unitCount, a_unitValue)) h hI hD hb hb16 ?_
  generalize rd_g nu st b (qt_sp T b) = f at h0 h1
  have key : ∀ k n d, d + k = 5 → k < n → (∀ e, e < d → ¬ rd_pd f un b e) → wX_passUnitWithin_11 post (nI b) (nI (rd_mk f 5)) f_active f_epoch a_dataNodeDown a_journalDown a_masterDown a_inTouch a_promise a_base a_logLength a_logEpoch a_logKind a_logA a_logB a_logC a_inodeState a_inodePlace a_inodeClient a_closeUnits a_rowLength a_rowBlock a_blockStamp a_replicaHeld a_replicaStamp a_unitCount a_unitValue n (rd_lv f b d) (nI d) := by
    intro k
    induction k with
    | zero =>
      intro n d hd hn H
      obtain ⟨n, rfl⟩ : ∃ n', n = n' + 1 := ⟨n - 1, by omega⟩
      have e : d = 5 := by omega
      subst e
      exact br_t lb_t (h0 H)
    | succ k ih =>
      intro n d hd hn H
      obtain ⟨n, rfl⟩ : ∃ n', n = n' + 1 := ⟨n - 1, by omega⟩
      have hd5 : d < 5 := by omega
      have hc : 16 * d + b < 80 := by omega
      have hu := hb.2 _ hc
      have go : ¬ rd_pd f un b d → wX_passUnitWithin_11 post (nI b) (nI (rd_mk f 5)) f_active f_epoch a_dataNodeDown a_journalDown a_masterDown a_inTouch a_promise a_base a_logLength a_logEpoch a_logKind a_logA a_logB a_logC a_inodeState a_inodePlace a_inodeClient a_closeUnits a_rowLength a_rowBlock a_blockStamp a_replicaHeld a_replicaStamp a_unitCount a_unitValue n (rd_lv f b (d + 1)) (nI (d + 1)) := by
        intro z
        refine ih n (d + 1) (by omega) (by omega) (fun e he => ?_)
        by_cases e' : e = d
        · subst e'; exact z
        · exact H e (by omega)
      refine br_f (lb_f hd5) (xm_isIn hd5 (fun z => br_f bo_1 (nm_r (mu_r d 16 b) ?_)) (fun z => br_t rfl (nm_r (nI_1 d) ?_)))
      · by_cases hl : rd_lo f d = 0
        · have e : rd_lv f b d = -1 := if_pos hl
          rw [e]
          refine br_t rfl (nm_r (nI_1 d) ?_)
          have := go (fun y => by have := y.2.1; omega)
          rw [rd_lvT z] at this
          exact this
        · have hle : rd_lo f d ≤ d := by rcases rd_loP (f := f) (n := d) with y | y <;> omega
          have hc2 : 16 * (rd_lo f d - 1) + b < 80 := by omega
          have hu2 := hb.2 _ hc2
          have e : rd_lv f b d = nI (16 * (rd_lo f d - 1) + b) := if_neg hl
          rw [e]
          have eu : a_unitCount (nI (16 * d + b)).toNatClampNeg = nI (un (16 * d + b)) := by rw [nI_clamp (by omega)]; exact hD.2.2.2.1 _ hc
          have eu2 : a_unitCount (nI (16 * (rd_lo f d - 1) + b)).toNatClampNeg = nI (un (16 * (rd_lo f d - 1) + b)) := by rw [nI_clamp (by omega)]; exact hD.2.2.2.1 _ hc2
          refine br_f (ix_m1 (by omega)) ⟨vp_in_nI hc (by decide), vp_in_nI hc2 (by decide), ?_⟩
          rw [eu, eu2]
          refine cd_if (nI_leI (by omega) (by omega)) (fun y => nm_r (nI_1 d) ?_) (fun y => ⟨vp_in_nI hc (by decide), ?_⟩)
          · have := go (fun x => by have := x.2.2; omega)
            rw [rd_lvT z] at this
            exact this
          · rw [show nI (16 * (rd_lo f d - 1) + b) * 8 + nI (un (16 * d + b)) = nI (8 * (16 * (rd_lo f d - 1) + b) + un (16 * d + b)) from mu_r _ 8 _]
            refine ⟨vp_in_nI (by omega) (by decide), xm_putUnit (u := (f_active, f_epoch, a_dataNodeDown, a_journalDown, a_masterDown, a_inTouch, a_promise, a_base, a_logLength, a_logEpoch, a_logKind, a_logA, a_logB, a_logC, a_inodeState, a_inodePlace, a_inodeClient, a_closeUnits, a_rowLength, a_rowBlock, a_blockStamp, a_replicaHeld, a_replicaStamp, a_unitCount, a_unitValue)) h hL hD hc (by omega) ?_⟩
            rintro ⟨f_active, f_epoch, a_dataNodeDown, a_journalDown, a_masterDown, a_inTouch, a_promise, a_base, a_logLength, a_logEpoch, a_logKind, a_logA, a_logB, a_logC, a_inodeState, a_inodePlace, a_inodeClient, a_closeUnits, a_rowLength, a_rowBlock, a_blockStamp, a_replicaHeld, a_replicaStamp, a_unitCount, a_unitValue⟩ g1 g2 g3
            refine h1 d hd5 ⟨z, by omega, by omega⟩ H _ g1 g2 ?_
            rw [nI_clamp (by omega), hD.2.2.2.2] at g3
            exact g3
      · have := go (fun y => absurd (z.symm.trans y.1) (by decide))
        rw [rd_lvF z] at this
        exact this
  exact ⟨6, key 5 6 0 (by omega) (by omega) (fun e he => by omega)⟩
theorem xm_passOne {u : SX} (h : sx_T T u) (hI : qt_iv T) (hL : sx_L (mu, ju, ac, ep, to, pr, ba, le, lg) u) (hD : sx_D (nu, st, un, ua) u) (hb : rd_bd (nu, st, un, ua)) {post : Int32 → SX → Prop} (h0 : (∀ b, b < 16 → ¬ rd_pg T nu st un b) → post 0 u)
    (h1 : ∀ b d, b < 16 → d < 5 → qt_ol T b → (∀ e, e < b → ¬ rd_pg T nu st un e) → rd_pd (rd_g nu st b (qt_sp T b)) un b d → (∀ e, e < d → ¬ rd_pd (rd_g nu st b (qt_sp T b)) un b e) → ∀ u', sx_T T u' → sx_L (mu, ju, ac, ep, to, pr, ba, le, lg) u' → sx_D (rd_ps (nu, st, un, ua) b d (rd_lo (rd_g nu st b (qt_sp T b)) d - 1)) u' → post 1 u') : wpX_passOneUnit post u := by
  obtain ⟨f_active, f_epoch, a_dataNodeDown, a_journalDown, a_masterDown, a_inTouch, a_promise, a_base, a_logLength, a_logEpoch, a_logKind, a_logA, a_logB, a_logC, a_inodeState, a_inodePlace, a_inodeClient, a_closeUnits, a_rowLength, a_rowBlock, a_blockStamp, a_replicaHeld, a_replicaStamp, a_unitCount, a_unitValue⟩ := u
  have key : ∀ k n b, b + k = 16 → k < n → (∀ e, e < b → ¬ rd_pg T nu st un e) → wX_passOneUnit_2 post n (nI b) f_active f_epoch a_dataNodeDown a_journalDown a_masterDown a_inTouch a_promise a_base a_logLength a_logEpoch a_logKind a_logA a_logB a_logC a_inodeState a_inodePlace a_inodeClient a_closeUnits a_rowLength a_rowBlock a_blockStamp a_replicaHeld a_replicaStamp a_unitCount a_unitValue := by
    intro k
    induction k with
    | zero =>
      intro n b hb' hn H
      obtain ⟨n, rfl⟩ : ∃ n', n = n' + 1 := ⟨n - 1, by omega⟩
      have e : b = 16 := by omega
      subst e
      exact br_t lb_t (h0 H)
    | succ k ih =>
      intro n b hb' hn H
      obtain ⟨n, rfl⟩ : ∃ n', n = n' + 1 := ⟨n - 1, by omega⟩
      have hb16 : b < 16 := by omega
      have go : ¬ rd_pg T nu st un b → wX_passOneUnit_2 post n (nI (b + 1)) f_active f_epoch a_dataNodeDown a_journalDown a_masterDown a_inTouch a_promise a_base a_logLength a_logEpoch a_logKind a_logA a_logB a_logC a_inodeState a_inodePlace a_inodeClient a_closeUnits a_rowLength a_rowBlock a_blockStamp a_replicaHeld a_replicaStamp a_unitCount a_unitValue := by
        intro z
        refine ih n (b + 1) (by omega) (by omega) (fun e he => ?_)
        by_cases e' : e = b
        · subst e'; exact z
        · exact H e (by omega)
      refine br_f (lb_f hb16) (xm_isLastOfOpenFile (u := (f_active, f_epoch, a_dataNodeDown, a_journalDown, a_masterDown, a_inTouch, a_promise, a_base, a_logLength, a_logEpoch, a_logKind, a_logA, a_logB, a_logC, a_inodeState, a_inodePlace, a_inodeClient, a_closeUnits, a_rowLength, a_rowBlock, a_blockStamp, a_replicaHeld, a_replicaStamp, a_unitCount, a_unitValue)) h hI hb16 (fun ho => br_f bo_1 ?_) (fun ho => br_t rfl (nm_r (nI_1 b) (go (fun z => ho z.1)))))
      refine xm_passUnitWithin (u := (f_active, f_epoch, a_dataNodeDown, a_journalDown, a_masterDown, a_inTouch, a_promise, a_base, a_logLength, a_logEpoch, a_logKind, a_logA, a_logB, a_logC, a_inodeState, a_inodePlace, a_inodeClient, a_closeUnits, a_rowLength, a_rowBlock, a_blockStamp, a_replicaHeld, a_replicaStamp, a_unitCount, a_unitValue)) h hI hL hD hb hb16 (fun z => br_t rfl (nm_r (nI_1 b) (go (fun y => ?_)))) (fun d hd hp hl => ?_)
      · obtain ⟨_, d, hd, hp⟩ := y
        exact z d hd hp
      · rintro ⟨f_active, f_epoch, a_dataNodeDown, a_journalDown, a_masterDown, a_inTouch, a_promise, a_base, a_logLength, a_logEpoch, a_logKind, a_logA, a_logB, a_logC, a_inodeState, a_inodePlace, a_inodeClient, a_closeUnits, a_rowLength, a_rowBlock, a_blockStamp, a_replicaHeld, a_replicaStamp, a_unitCount, a_unitValue⟩ g1 g2 g3
        exact br_f bo_1 (h1 b d hb16 hd ho H hp hl _ g1 g2 g3)
  exact ⟨17, key 16 17 0 (by omega) (by omega) (fun e he => by omega)⟩
theorem ym_passIn {v : SY} (h : sy_T T v) (hI : qt_iv T) (hL : sy_L (mu, ju, ac, ep, to, pr, ba, le, lg) v) (hD : sy_D (nu, st, un, ua) v) (hb : rd_bd (nu, st, un, ua)) {post : Int32 → SY → Prop} {b : Nat} (hb16 : b < 16) (hin : qt_in (qt_rl T) (qt_ro T) b) (h0 : (∀ d, d < 5 → ¬ rd_pd (rd_g nu st b (qt_sp T b)) un b d) → post 0 v)
    (h1 : ∀ d, d < 5 → rd_pd (rd_g nu st b (qt_sp T b)) un b d → (∀ e, e < d → ¬ rd_pd (rd_g nu st b (qt_sp T b)) un b e) → ∀ v', sy_T T v' → sy_L (mu, ju, ac, ep, to, pr, ba, le, lg) v' → sy_D (rd_ps (nu, st, un, ua) b d (rd_lo (rd_g nu st b (qt_sp T b)) d - 1)) v' → post 1 v') : wpY_passIn post v (nI b) := by
  obtain ⟨f_active, f_epoch, a_nodeUp, a_journalUp, a_masterUp, a_touch, a_log, a_many, a_promise, a_base, a_stamp, a_units, a_unit, a_sort, a_placeOf, a_client, a_rowLength, a_row, a_closedWith, a_stampOf⟩ := v
  have h' : qt_ag False T a_sort a_placeOf a_client a_closedWith a_rowLength a_row a_stampOf := h
  have key : ∀ k n d, d + k = 5 → k < n → (∀ e, e < d → ¬ rd_pd (rd_g nu st b (qt_sp T b)) un b e) → wY_passIn_4 post (nI b) f_active f_epoch a_nodeUp a_journalUp a_masterUp a_touch a_log a_many a_promise a_base a_stamp a_units a_unit a_sort a_placeOf a_client a_rowLength a_row a_closedWith a_stampOf n (rd_lv (rd_g nu st b (qt_sp T b)) b d) (nI d) := by
    intro k
    induction k with
    | zero =>
      intro n d hd hn H
      obtain ⟨n, rfl⟩ : ∃ n', n = n' + 1 := ⟨n - 1, by omega⟩
      have e : d = 5 := by omega
      subst e
      exact br_t lb_t (h0 H)
    | succ k ih =>
      intro n d hd hn H
      obtain ⟨n, rfl⟩ : ∃ n', n = n' + 1 := ⟨n - 1, by omega⟩
      have hd5 : d < 5 := by omega
      have hc : 16 * d + b < 80 := by omega
      have hu := hb.2 _ hc
      have go : ¬ rd_pd (rd_g nu st b (qt_sp T b)) un b d → wY_passIn_4 post (nI b) f_active f_epoch a_nodeUp a_journalUp a_masterUp a_touch a_log a_many a_promise a_base a_stamp a_units a_unit a_sort a_placeOf a_client a_rowLength a_row a_closedWith a_stampOf n (rd_lv (rd_g nu st b (qt_sp T b)) b (d + 1)) (nI (d + 1)) := by
        intro z
        refine ih n (d + 1) (by omega) (by omega) (fun e he => ?_)
        by_cases e' : e = d
        · subst e'; exact z
        · exact H e (by omega)
      refine br_f (lb_f hd5) (ym_isGood (v := (f_active, f_epoch, a_nodeUp, a_journalUp, a_masterUp, a_touch, a_log, a_many, a_promise, a_base, a_stamp, a_units, a_unit, a_sort, a_placeOf, a_client, a_rowLength, a_row, a_closedWith, a_stampOf)) h hI hD hb hb16 hin hd5 (fun z => br_f bo_1 (nm_r (mu_l d 16 b) ?_)) (fun z => br_t rfl (nm_r (nI_1 d) ?_)))
      · by_cases hl : rd_lo (rd_g nu st b (qt_sp T b)) d = 0
        · have e : rd_lv (rd_g nu st b (qt_sp T b)) b d = -1 := if_pos hl
          rw [e]
          refine br_t (by decide) (nm_r (nI_1 d) ?_)
          have := go (fun y => by have := y.2.1; omega)
          rw [rd_lvT z] at this
          exact this
        · have hle : rd_lo (rd_g nu st b (qt_sp T b)) d ≤ d := by rcases rd_loP (f := rd_g nu st b (qt_sp T b)) (n := d) with y | y <;> omega
          have hc2 : 16 * (rd_lo (rd_g nu st b (qt_sp T b)) d - 1) + b < 80 := by omega
          have hu2 := hb.2 _ hc2
          have e : rd_lv (rd_g nu st b (qt_sp T b)) b d = nI (16 * (rd_lo (rd_g nu st b (qt_sp T b)) d - 1) + b) := if_neg hl
          rw [e]
          generalize hlo : rd_lo (rd_g nu st b (qt_sp T b)) d - 1 = lo at hc2 hu2
          have hcc : (nI (16 * d + b)).toNatClampNeg = 16 * d + b := nI_clamp (by omega)
          have eu : a_units (nI (16 * d + b)).toNatClampNeg = nI (un (16 * d + b)) := by rw [hcc]; exact hD.2.2.1 _ hc
          have eu2 : a_units (nI (16 * lo + b)).toNatClampNeg = nI (un (16 * lo + b)) := by rw [nI_clamp (by omega)]; exact hD.2.2.1 _ hc2
          have hv := vp_in_nI hc (by decide : 80 < 2 ^ 31)
          refine br_f (nI_pos (by omega)) ⟨hv, vp_in_nI hc2 (by decide), ?_⟩
          rw [eu, eu2]
          refine cd_if (nI_leI (by omega) (by omega)) (fun y => nm_r (nI_1 d) ?_) (fun y => ⟨hv, hv, ?_⟩)
          · have := go (fun x => by have := x.2.2; rw [hlo] at this; omega)
            rw [rd_lvT z] at this
            exact this
          · rw [show 8 * nI (16 * lo + b) + nI (un (16 * d + b)) = nI (8 * (16 * lo + b) + un (16 * d + b)) from mu_l _ 8 _, show 8 * nI (16 * d + b) + nI (un (16 * d + b)) = nI (8 * (16 * d + b) + un (16 * d + b)) from mu_l _ 8 _, hcc, show (nI (8 * (16 * lo + b) + un (16 * d + b))).toNatClampNeg = 8 * (16 * lo + b) + un (16 * d + b) from nI_clamp (by omega), show (nI (8 * (16 * d + b) + un (16 * d + b))).toNatClampNeg = 8 * (16 * d + b) + un (16 * d + b) from nI_clamp (by omega), nI_1]
            obtain ⟨l1, l2, l3, l4, l5, l6, l7, l8, l9⟩ := hL
            obtain ⟨d1, d2, d3, d4⟩ := hD
            refine ⟨vp_in_nI (by omega) (by decide), vp_in_nI (by omega) (by decide), nm_e ⟨hv, hv, nm_e (h1 d hd5 ⟨z, by omega, by rw [hlo]; omega⟩ H _ h' ⟨l1, l2, l3, l4, l5, l6, l7, l8, l9⟩ ?_)⟩⟩
            rw [hlo]
            refine ⟨d1, d2, ?_, ?_⟩
            · intro j hj
              by_cases z : j = 16 * d + b
              · subst z; rw [pk_us, qt_us]
              · rw [pk_un z, qt_un z]; exact d3 j hj
            · rw [d4]
      · have := go (fun y => absurd (z.symm.trans y.1) (by decide))
        rw [rd_lvF z] at this
        exact this
  exact ⟨6, key 5 6 0 (by omega) (by omega) (fun e he => by omega)⟩
theorem ym_passOne {v : SY} (h : sy_T T v) (hI : qt_iv T) (hL : sy_L (mu, ju, ac, ep, to, pr, ba, le, lg) v) (hD : sy_D (nu, st, un, ua) v) (hb : rd_bd (nu, st, un, ua)) {post : Int32 → SY → Prop} (h0 : (∀ b, b < 16 → ¬ rd_pg T nu st un b) → post 0 v)
    (h1 : ∀ b d, b < 16 → d < 5 → qt_ol T b → (∀ e, e < b → ¬ rd_pg T nu st un e) → rd_pd (rd_g nu st b (qt_sp T b)) un b d → (∀ e, e < d → ¬ rd_pd (rd_g nu st b (qt_sp T b)) un b e) → ∀ v', sy_T T v' → sy_L (mu, ju, ac, ep, to, pr, ba, le, lg) v' → sy_D (rd_ps (nu, st, un, ua) b d (rd_lo (rd_g nu st b (qt_sp T b)) d - 1)) v' → post 1 v') : wpY_passOne post v := by
  obtain ⟨f_active, f_epoch, a_nodeUp, a_journalUp, a_masterUp, a_touch, a_log, a_many, a_promise, a_base, a_stamp, a_units, a_unit, a_sort, a_placeOf, a_client, a_rowLength, a_row, a_closedWith, a_stampOf⟩ := v
  have key : ∀ k n b, b + k = 16 → k < n → (∀ e, e < b → ¬ rd_pg T nu st un e) → wY_passOne_2 post n (nI b) f_active f_epoch a_nodeUp a_journalUp a_masterUp a_touch a_log a_many a_promise a_base a_stamp a_units a_unit a_sort a_placeOf a_client a_rowLength a_row a_closedWith a_stampOf := by
    intro k
    induction k with
    | zero =>
      intro n b hb' hn H
      obtain ⟨n, rfl⟩ : ∃ n', n = n' + 1 := ⟨n - 1, by omega⟩
      have e : b = 16 := by omega
      subst e
      exact br_t lb_t (h0 H)
    | succ k ih =>
      intro n b hb' hn H
      obtain ⟨n, rfl⟩ : ∃ n', n = n' + 1 := ⟨n - 1, by omega⟩
      have hb16 : b < 16 := by omega
      have go : ¬ rd_pg T nu st un b → wY_passOne_2 post n (nI (b + 1)) f_active f_epoch a_nodeUp a_journalUp a_masterUp a_touch a_log a_many a_promise a_base a_stamp a_units a_unit a_sort a_placeOf a_client a_rowLength a_row a_closedWith a_stampOf := by
        intro z
        refine ih n (b + 1) (by omega) (by omega) (fun e he => ?_)
        by_cases e' : e = b
        · subst e'; exact z
        · exact H e (by omega)
      refine br_f (lb_f hb16) (ym_isOpenLast (v := (f_active, f_epoch, a_nodeUp, a_journalUp, a_masterUp, a_touch, a_log, a_many, a_promise, a_base, a_stamp, a_units, a_unit, a_sort, a_placeOf, a_client, a_rowLength, a_row, a_closedWith, a_stampOf)) h hI hb16 (fun ho => br_f bo_1 ?_) (fun ho => br_t rfl (br_t rfl (nm_r (nI_1 b) (go (fun z => ho z.1))))))
      refine ym_passIn (v := (f_active, f_epoch, a_nodeUp, a_journalUp, a_masterUp, a_touch, a_log, a_many, a_promise, a_base, a_stamp, a_units, a_unit, a_sort, a_placeOf, a_client, a_rowLength, a_row, a_closedWith, a_stampOf)) h hI hL hD hb hb16 (qt_olI ho) (fun z => br_t rfl (nm_r (nI_1 b) (go (fun y => ?_)))) (fun d hd hp hl => ?_)
      · obtain ⟨_, d, hd, hp⟩ := y
        exact z d hd hp
      · rintro ⟨f_active, f_epoch, a_nodeUp, a_journalUp, a_masterUp, a_touch, a_log, a_many, a_promise, a_base, a_stamp, a_units, a_unit, a_sort, a_placeOf, a_client, a_rowLength, a_row, a_closedWith, a_stampOf⟩ g1 g2 g3
        exact br_f bo_1 (h1 b d hb16 hd ho H hp hl _ g1 g2 g3)
  exact ⟨17, key 16 17 0 (by omega) (by omega) (fun e he => by omega)⟩
end
