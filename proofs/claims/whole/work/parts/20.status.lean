/-! status, fold, power -/
def rd_sm (st : Nat → Nat) : Nat → Nat
  | 0 => 0
  | n + 1 => rd_sm st n + rd_ld st n 16
theorem xm_countReplicas {nu : Nat → Bool} {st un : Nat → Nat} {ua : Nat → Int32} {u : SX} (hD : sx_D (nu, st, un, ua) u) {post : Int32 → Prop} (hp : post (nI (rd_sm st 5))) : wpX_countReplicas post u := by
  obtain ⟨f_active, f_epoch, a_dataNodeDown, a_journalDown, a_masterDown, a_inTouch, a_promise, a_base, a_logLength, a_logEpoch, a_logKind, a_logA, a_logB, a_logC, a_inodeState, a_inodePlace, a_inodeClient, a_closeUnits, a_rowLength, a_rowBlock, a_blockStamp, a_replicaHeld, a_replicaStamp, a_unitCount, a_unitValue⟩ := u
  refine ⟨6, lq_f (fun n d s => wX_countReplicas_4 post f_active f_epoch a_dataNodeDown a_journalDown a_masterDown a_inTouch a_promise a_base a_logLength a_logEpoch a_logKind a_logA a_logB a_logC a_inodeState a_inodePlace a_inodeClient a_closeUnits a_rowLength a_rowBlock a_blockStamp a_replicaHeld a_replicaStamp a_unitCount a_unitValue n s (nI d)) 5 (fun d => nI (rd_sm st d)) (fun n => br_t lb_t hp) (fun n d hd H => ?_) 6 0 (by omega) (by omega)⟩
  exact br_f (lb_f hd) (xm_loadOf (u := (f_active, f_epoch, a_dataNodeDown, a_journalDown, a_masterDown, a_inTouch, a_promise, a_base, a_logLength, a_logEpoch, a_logKind, a_logA, a_logB, a_logC, a_inodeState, a_inodePlace, a_inodeClient, a_closeUnits, a_rowLength, a_rowBlock, a_blockStamp, a_replicaHeld, a_replicaStamp, a_unitCount, a_unitValue)) hD hd (nm_r (nI_add _ _) (nm_r (nI_1 d) H)))
section
variable {T : qt_T} {mu ju : Nat → Bool} {ac ep : Nat} {to : Nat → Bool} {pr ba le : Nat → Nat} {lg : Nat → Nat → qt_R} {nu : Nat → Bool} {st un : Nat → Nat} {ua : Nat → Int32}
/-- what status answers -/
def rl_sv (T : qt_T) (ac ep len : Nat) (st : Nat → Nat) (w : Int32) : Int32 :=
  if w = 0 then qt_m ac else if w = 1 then nI ep else if w = 3 then nI (rd_sm st 5) else if ac = 0 then -1 else if w = 2 then nI len else if w = 4 then nI (rd_cn (fun i => decide (qt_so T i ≠ 0)) 12) else -1
theorem xm_status {u : SX} (h : sx_T T u) (hI : qt_iv T) (hL : sx_L (mu, ju, ac, ep, to, pr, ba, le, lg) u) (hD : sx_D (nu, st, un, ua) u) (ha : ac ≤ 2) (h2 : 0 < ac → lj_two to) {post : Int32 → Prop} {w : Int32} (hp : post (rl_sv T ac ep (le (lj_src to)) st w)) : wpX_status post u w := by
  obtain ⟨f_active, f_epoch, a_dataNodeDown, a_journalDown, a_masterDown, a_inTouch, a_promise, a_base, a_logLength, a_logEpoch, a_logKind, a_logA, a_logB, a_logC, a_inodeState, a_inodePlace, a_inodeClient, a_closeUnits, a_rowLength, a_rowBlock, a_blockStamp, a_replicaHeld, a_replicaStamp, a_unitCount, a_unitValue⟩ := u
  have e1 : f_active = qt_m ac := hL.1
  have e2 : f_epoch = nI ep := hL.2.1
  unfold rl_sv at hp
  refine cd_if Iff.rfl (fun z => ?_) (fun z1 => cd_if Iff.rfl (fun z => ?_) (fun z3 => cd_if (show f_active = -1 ↔ ac = 0 by rw [e1, qt_m0E (by omega)]) (fun za => ?_) (fun za => ?_)))
  · subst z
    rw [if_neg (by decide), if_pos rfl, ← e2] at hp
    exact hp
  · subst z
    rw [if_neg (by decide), if_neg (by decide), if_pos rfl] at hp
    exact xm_countReplicas (u := (f_active, f_epoch, a_dataNodeDown, a_journalDown, a_masterDown, a_inTouch, a_promise, a_base, a_logLength, a_logEpoch, a_logKind, a_logA, a_logB, a_logC, a_inodeState, a_inodePlace, a_inodeClient, a_closeUnits, a_rowLength, a_rowBlock, a_blockStamp, a_replicaHeld, a_replicaStamp, a_unitCount, a_unitValue)) hD hp
  · by_cases z0 : w = 0
    · rw [if_pos z0, za, qt_m0] at hp; exact hp
    · rw [if_neg z0, if_neg z1, if_neg z3, if_pos za] at hp; exact hp
  · rcases ix_s (N := 4) (by decide) w with z | ⟨z, z2⟩ | ⟨w, hw, rfl⟩
    · rw [if_neg (show ¬ w = 0 from sw_n (c := 0) z (by decide)), if_neg z1, if_neg z3, if_neg za, if_neg (show ¬ w = 2 from sw_n (c := 2) z (by decide)), if_neg (show ¬ w = 4 from sw_n (c := 4) z (by decide))] at hp
      exact br_t z hp
    · rw [if_neg (show ¬ w = 0 from sw_g (c := 0) z2 (by decide) (by decide)), if_neg z1, if_neg z3, if_neg za, if_neg (show ¬ w = 2 from sw_g (c := 2) z2 (by decide) (by decide)), if_neg (show ¬ w = 4 from sw_g (c := 4) z2 (by decide) (by decide))] at hp
      exact br_f z (br_t z2 hp)
    · match w, hw with
      | 0, _ =>
        rw [if_pos (by decide), ← e1] at hp
        exact br_f (by decide) (br_f (by decide) (br_t rfl hp))
      | 1, _ => exact absurd rfl z1
      | 2, _ =>
        rw [if_neg (by decide), if_neg (by decide), if_neg (by decide), if_neg za, if_pos (by decide)] at hp
        exact br_f (by decide) (br_f (by decide) (br_f (by decide) (br_f (by decide) (br_t rfl (xm_sharedLength (u := (f_active, f_epoch, a_dataNodeDown, a_journalDown, a_masterDown, a_inTouch, a_promise, a_base, a_logLength, a_logEpoch, a_logKind, a_logA, a_logB, a_logC, a_inodeState, a_inodePlace, a_inodeClient, a_closeUnits, a_rowLength, a_rowBlock, a_blockStamp, a_replicaHeld, a_replicaStamp, a_unitCount, a_unitValue)) hL (h2 (by omega)) hp)))))
      | 3, _ => exact absurd rfl z3
      | 4, _ =>
        rw [if_neg (by decide), if_neg (by decide), if_neg (by decide), if_neg za, if_neg (by decide), if_pos (by decide)] at hp
        exact br_f (by decide) (br_f (by decide) (br_f (by decide) (br_f (by decide) (br_f (by decide) (br_f (by decide) (br_t rfl (xm_countInodes (u := (f_active, f_epoch, a_dataNodeDown, a_journalDown, a_masterDown, a_inTouch, a_promise, a_base, a_logLength, a_logEpoch, a_logKind, a_logA, a_logB, a_logC, a_inodeState, a_inodePlace, a_inodeClient, a_closeUnits, a_rowLength, a_rowBlock, a_blockStamp, a_replicaHeld, a_replicaStamp, a_unitCount, a_unitValue)) h hI hp)))))))
theorem ym_status {v : SY} (hI : qt_iv T) (hL : sy_L (mu, ju, ac, ep, to, pr, ba, le, lg) v) (hD : sy_D (nu, st, un, ua) v) (hb : rd_bd (nu, st, un, ua)) (ha : ac ≤ 2) (hw : ∀ j, j < 3 → qt_wf (lg j) (le j) ∧ le j ≤ 1000) (hT : 0 < ac → T = qt_ab (lg (lj_src to)) (le (lj_src to))) {post : Int32 → SY → Prop} {w : Int32} (hp : ∀ v', sy_L (mu, ju, ac, ep, to, pr, ba, le, lg) v' → sy_D (nu, st, un, ua) v' → post (rl_sv T ac ep (le (lj_src to)) st w) v') : wpY_status post v w := by
  obtain ⟨f_active, f_epoch, a_nodeUp, a_journalUp, a_masterUp, a_touch, a_log, a_many, a_promise, a_base, a_stamp, a_units, a_unit, a_sort, a_placeOf, a_client, a_rowLength, a_row, a_closedWith, a_stampOf⟩ := v
  have e1 : f_active = qt_m ac := hL.1
  have e2 : f_epoch = nI ep := hL.2.1
  have hp0 := hp (f_active, f_epoch, a_nodeUp, a_journalUp, a_masterUp, a_touch, a_log, a_many, a_promise, a_base, a_stamp, a_units, a_unit, a_sort, a_placeOf, a_client, a_rowLength, a_row, a_closedWith, a_stampOf) hL hD
  have hrest : 0 < ac → (w = 2 ∨ w = 4) → wY_status_73 post w f_active f_epoch a_nodeUp a_journalUp a_masterUp a_touch a_log a_many a_promise a_base a_stamp a_units a_unit a_sort a_placeOf a_client a_rowLength a_row a_closedWith a_stampOf := by
    intro ha0 hw24
    refine ym_tell (v := (f_active, f_epoch, a_nodeUp, a_journalUp, a_masterUp, a_touch, a_log, a_many, a_promise, a_base, a_stamp, a_units, a_unit, a_sort, a_placeOf, a_client, a_rowLength, a_row, a_closedWith, a_stampOf)) hL hD hw ?_
    rintro ⟨f_active, f_epoch, a_nodeUp, a_journalUp, a_masterUp, a_touch, a_log, a_many, a_promise, a_base, a_stamp, a_units, a_unit, a_sort, a_placeOf, a_client, a_rowLength, a_row, a_closedWith, a_stampOf⟩ gT gL gD
    have hp0 := hp (f_active, f_epoch, a_nodeUp, a_journalUp, a_masterUp, a_touch, a_log, a_many, a_promise, a_base, a_stamp, a_units, a_unit, a_sort, a_placeOf, a_client, a_rowLength, a_row, a_closedWith, a_stampOf) gL gD
    rw [← hT ha0] at gT
    refine ⟨13, lq_f (fun n d s => wY_status_81 post w f_active f_epoch a_nodeUp a_journalUp a_masterUp a_touch a_log a_many a_promise a_base a_stamp a_units a_unit a_sort a_placeOf a_client a_rowLength a_row a_closedWith a_stampOf n s (nI d)) 12 (fun d => nI (rd_cn (fun i => decide (qt_so T i ≠ 0)) d)) (fun n => br_t lb_t ?_) (fun n d hd H => ?_) 13 0 (by omega) (by omega)⟩
    · refine ym_source (v := (f_active, f_epoch, a_nodeUp, a_journalUp, a_masterUp, a_touch, a_log, a_many, a_promise, a_base, a_stamp, a_units, a_unit, a_sort, a_placeOf, a_client, a_rowLength, a_row, a_closedWith, a_stampOf)) gL ?_
      have hs := lj_srcL to
      unfold rl_sv at hp0
      rcases hw24 with rfl | rfl
      · rw [if_neg (by decide), if_neg (by decide), if_neg (by decide), if_neg (by omega), if_pos (by decide)] at hp0
        refine br_t rfl ⟨vp_in_nI hs (by decide), ?_⟩
        rw [nI_clamp (by omega), gL.2.2.2.2.2.2.2.1 _ hs]
        exact hp0
      · rw [if_neg (by decide), if_neg (by decide), if_neg (by decide), if_neg (by omega), if_neg (by decide), if_pos (by decide)] at hp0
        exact br_f (by decide) hp0
    · have hb3 := qt_iv3 hI d hd
      refine br_f (lb_f hd) ⟨vp_in_nI hd (by decide), cd_if (cd_e (c := 0) (qt_ag1 gT d hd) (by omega) (by omega) (by decide)) (fun z => nm_r (nI_1 d) ?_) (fun z => nm_r (rd_cnT (f := fun i => decide (qt_so T i ≠ 0)) (decide_eq_true z)) (nm_r (nI_1 d) H))⟩
      rw [← rd_cnF (f := fun i => decide (qt_so T i ≠ 0)) (decide_eq_false (fun y => y z))]
      exact H
  unfold rl_sv at hp0
  refine cd_if Iff.rfl (fun z0 => ?_) (fun z0 => cd_if Iff.rfl (fun z1 => ?_) (fun z1 => cd_if Iff.rfl (fun z3 => ?_) (fun z3 => cd_if (show f_active < 0 ↔ ac = 0 by rw [e1, qt_mZ (by omega)]) (fun za => ?_) (fun za => cd_if Iff.rfl (fun z2 => hrest (by omega) (Or.inl z2)) (fun z2 => cd_if Iff.rfl (fun z4 => hrest (by omega) (Or.inr z4)) (fun z4 => ?_))))))
  · rw [if_pos z0, ← e1] at hp0; exact hp0
  · rw [if_neg z0, if_pos z1, ← e2] at hp0; exact hp0
  · rw [if_neg z0, if_neg z1, if_pos z3] at hp0
    refine ym_load (v := (f_active, f_epoch, a_nodeUp, a_journalUp, a_masterUp, a_touch, a_log, a_many, a_promise, a_base, a_stamp, a_units, a_unit, a_sort, a_placeOf, a_client, a_rowLength, a_row, a_closedWith, a_stampOf)) hD hb (d := 0) (by decide) (ym_load (v := (f_active, f_epoch, a_nodeUp, a_journalUp, a_masterUp, a_touch, a_log, a_many, a_promise, a_base, a_stamp, a_units, a_unit, a_sort, a_placeOf, a_client, a_rowLength, a_row, a_closedWith, a_stampOf)) hD hb (d := 1) (by decide) (ym_load (v := (f_active, f_epoch, a_nodeUp, a_journalUp, a_masterUp, a_touch, a_log, a_many, a_promise, a_base, a_stamp, a_units, a_unit, a_sort, a_placeOf, a_client, a_rowLength, a_row, a_closedWith, a_stampOf)) hD hb (d := 2) (by decide) (ym_load (v := (f_active, f_epoch, a_nodeUp, a_journalUp, a_masterUp, a_touch, a_log, a_many, a_promise, a_base, a_stamp, a_units, a_unit, a_sort, a_placeOf, a_client, a_rowLength, a_row, a_closedWith, a_stampOf)) hD hb (d := 3) (by decide) (ym_load (v := (f_active, f_epoch, a_nodeUp, a_journalUp, a_masterUp, a_touch, a_log, a_many, a_promise, a_base, a_stamp, a_units, a_unit, a_sort, a_placeOf, a_client, a_rowLength, a_row, a_closedWith, a_stampOf)) hD hb (d := 4) (by decide) ?_))))
    rw [nI_add, nI_add, nI_add, nI_add]
    have e : rd_sm st 5 = rd_ld st 0 16 + rd_ld st 1 16 + rd_ld st 2 16 + rd_ld st 3 16 + rd_ld st 4 16 := by
      show 0 + rd_ld st 0 16 + rd_ld st 1 16 + rd_ld st 2 16 + rd_ld st 3 16 + rd_ld st 4 16 = _
      omega
    rw [e] at hp0
    exact hp0
  · rw [if_neg z0, if_neg z1, if_neg z3, if_pos za] at hp0; exact hp0
  · rw [if_neg z0, if_neg z1, if_neg z3, if_neg za, if_neg z2, if_neg z4] at hp0; exact hp0
end
theorem i_vc_status {k : Nat} {u : SX} {v : SY} (I : i_Rel k u v) (hk : k + 4 ≤ 2048) (v1 : Int32) : wpX_status (fun r => wpY_status (fun r' v' => r' = r ∧ i_Rel (k + 4) u v') v v1) u v1 := by
  obtain ⟨T, ⟨mu, ju, ac, ep, to, pr, ba, le, lg⟩, ⟨nu, st, un, ua⟩, h1, h2, h3, h4, h5, h6, h7, h8⟩ := I
  have hb := rl_bd h7 (by omega) h8
  have i5 := h7.2.2.2.2.1
  have i6 := h7.2.2.2.2.2
  exact xm_status h1 h6 h2 h3 h7.2.1 (fun z => (i6 z).1) (ym_status h6 h4 h5 hb h7.2.1 (fun j hj => ⟨(i5 j hj).1, (i5 j hj).2.2.2⟩) (fun z => (i6 z).2.2) (fun v' g1 g2 => ⟨rfl, T, _, _, h1, h2, h3, g1, g2, h6, lj_ivK (by omega) h7, h8⟩))
