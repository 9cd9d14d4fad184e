/-! tend: closed -/
theorem i_vc_tend {k : Nat} {u : SX} {v : SY} (I : i_Rel k u v) (hk : k + 4 ≤ 2048) (v1 : Int32) : wpX_tend (fun r u' => wpY_tend (fun r' v' => r' = r ∧ i_Rel (k + 4) u' v') v v1) u v1 := by
  have I' := i_up I
  obtain ⟨T, ⟨mu, ju, ac, ep, to, pr, ba, le, lg⟩, ⟨nu, st, un, ua⟩, h1, h2, h3, h4, h5, h6, h7, h8⟩ := I
  have hb := rl_bd h7 (by omega) h8
  have i5 := h7.2.2.2.2.1
  have R : ∀ u' v' st' un' ua', sx_T T u' → sx_L (mu, ju, ac, ep, to, pr, ba, le, lg) u' → sx_D (nu, st', un', ua') u' → sy_L (mu, ju, ac, ep, to, pr, ba, le, lg) v' → sy_D (nu, st', un', ua') v' → (∀ c, c < 80 → (∃ c', c' < 80 ∧ st' c ≤ st c')) → (∀ c, c < 80 → un' c ≤ 8) → i_Rel (k + 4) u' v' := by
    intro u' v' st' un' ua' a1 a2 a3 a4 a5 a6 a7
    refine ⟨T, _, _, a1, a2, a3, a4, a5, h6, lj_ivK (by omega) h7, ⟨fun c hc => ?_, a7⟩⟩
    obtain ⟨c', hc', hle⟩ := a6 c hc
    exact Nat.le_trans hle (h8.1 c' hc')
  have R0 : ∀ v', sy_L (mu, ju, ac, ep, to, pr, ba, le, lg) v' → sy_D (nu, st, un, ua) v' → i_Rel (k + 4) u v' := fun v' g1 g2 => ⟨T, _, _, h1, h2, h3, g1, g2, h6, lj_ivK (by omega) h7, h8⟩
  obtain ⟨d, hd⟩ := ix_e v1 (N := 5) (by decide)
  obtain ⟨b, hbm⟩ := ls_ex (rd_cpb T nu st) 16
  obtain ⟨m, hm⟩ := ls_ex (fun d => rd_g nu st b (qt_sp T b) d = true) 5
  have hmt : b < 16 → (ls_f (fun d => rd_g nu st b (qt_sp T b) d = true) 5 m ∧ m < 5 ∧ (rd_il nu st (fun x => !rd_g nu st b (qt_sp T b) x) 5 - 1) < 5 ∧ rd_il nu st (fun x => !rd_g nu st b (qt_sp T b) x) 5 = (rd_il nu st (fun x => !rd_g nu st b (qt_sp T b) x) 5 - 1) + 1) ∧ m ≠ rd_il nu st (fun x => !rd_g nu st b (qt_sp T b) x) 5 - 1 := by
    intro hlt
    obtain ⟨c1, c2, c3, c4, c5⟩ := hbm.2.2 hlt
    obtain ⟨e, he, hg⟩ := rd_cnP c3
    have hm5 : m < 5 := ls_some hm he hg
    rcases rd_ilP (nu := nu) (st := st) (ok := fun x => !rd_g nu st b (qt_sp T b) x) (n := 5) with y | ⟨y1, y2, y3⟩
    · exact absurd y c5
    · refine ⟨⟨hm, hm5, by omega, by omega⟩, ?_⟩
      intro z
      rw [← z] at y2
      have := hm.2.2 hm5
      simp at y2
      exact absurd (y2.symm.trans this) (by decide)
  generalize rd_il nu st (fun x => !rd_g nu st b (qt_sp T b) x) 5 - 1 = t at hmt
  obtain ⟨keep, hkeep⟩ := bo_ex (fun b => qt_in (qt_rl T) (qt_ro T) b ∧ rd_g nu st b (qt_sp T b) d = true)
  generalize hR : i_Rel (k + 4) = Q at I' R R0
  obtain ⟨f_active, f_epoch, a_dataNodeDown, a_journalDown, a_masterDown, a_inTouch, a_promise, a_base, a_logLength, a_logEpoch, a_logKind, a_logA, a_logB, a_logC, a_inodeState, a_inodePlace, a_inodeClient, a_closeUnits, a_rowLength, a_rowBlock, a_blockStamp, a_replicaHeld, a_replicaStamp, a_unitCount, a_unitValue⟩ := u
  obtain ⟨g_active, g_epoch, a_nodeUp, a_journalUp, a_masterUp, a_touch, a_log, a_many, b_promise, b_base, a_stamp, a_units, a_unit, a_sort, a_placeOf, a_client, b_rowLength, a_row, a_closedWith, a_stampOf⟩ := v
  refine cd_if (xm_act h2.1 h7.2.1) (fun za => ?_) (fun za => ?_)
  · exact br_f (fun z => by have := (ym_act h4.1 h7.2.1).mp z; omega) ⟨rfl, I'⟩
  · have ya : 0 ≤ g_active := (ym_act h4.1 h7.2.1).mpr (by omega)
    have hT : T = qt_ab (lg (lj_src to)) (le (lj_src to)) := (h7.2.2.2.2.2 (by omega)).2.2
    have hwf : ∀ j, j < 3 → qt_wf (lg j) (le j) ∧ le j ≤ 1000 := fun j hj => ⟨(i5 j hj).1, (i5 j hj).2.2.2⟩
    have bad : ¬ v1 = -1 → ¬ (d < 5 ∧ nu d = true) → wpY_tend (fun r' v' => r' = -2 ∧ Q (f_active, f_epoch, a_dataNodeDown, a_journalDown, a_masterDown, a_inTouch, a_promise, a_base, a_logLength, a_logEpoch, a_logKind, a_logA, a_logB, a_logC, a_inodeState, a_inodePlace, a_inodeClient, a_closeUnits, a_rowLength, a_rowBlock, a_blockStamp, a_replicaHeld, a_replicaStamp, a_unitCount, a_unitValue) v') (g_active, g_epoch, a_nodeUp, a_journalUp, a_masterUp, a_touch, a_log, a_many, b_promise, b_base, a_stamp, a_units, a_unit, a_sort, a_placeOf, a_client, b_rowLength, a_row, a_closedWith, a_stampOf) v1 := by
      intro z1 z2
      refine br_t ya (ym_tell h4 h5 hwf ?_)
      rintro ⟨f_active, f_epoch, a_nodeUp, a_journalUp, a_masterUp, a_touch, a_log, a_many, a_promise, a_base, a_stamp, a_units, a_unit, a_sort, a_placeOf, a_client, a_rowLength, a_row, a_closedWith, a_stampOf⟩ gT gL gD
      refine br_f z1 (ym_in hd (by decide) rfl (fun hlt => br_f bo_1 ?_) (fun e => br_t rfl ⟨rfl, R0 _ gL gD⟩))
      have e := ix_i hd hlt
      subst e
      exact ⟨vp_in_nI hlt (by decide), br_t ((cd_p (gD.1 d hlt) (by omega)).mpr (by cases hh : nu d; rfl; exact absurd ⟨hlt, hh⟩ z2)) ⟨rfl, R0 _ gL gD⟩⟩
    refine cd_if Iff.rfl (fun z1 => ?_) (fun z1 => ?_)
    · refine xm_replicate h1 h6 h2 h3 hb hbm (fun hlt => (hmt hlt).1) (fun e => ?_) (fun hlt => ?_)
      · refine br_t ya (ym_tell h4 h5 hwf ?_)
        rintro ⟨f_active, f_epoch, a_nodeUp, a_journalUp, a_masterUp, a_touch, a_log, a_many, a_promise, a_base, a_stamp, a_units, a_unit, a_sort, a_placeOf, a_client, a_rowLength, a_row, a_closedWith, a_stampOf⟩ gT gL gD
        rw [← hT] at gT
        refine br_t z1 (ym_copied (v := (f_active, f_epoch, a_nodeUp, a_journalUp, a_masterUp, a_touch, a_log, a_many, a_promise, a_base, a_stamp, a_units, a_unit, a_sort, a_placeOf, a_client, a_rowLength, a_row, a_closedWith, a_stampOf)) gT h6 gL gD hb hbm (fun hlt => (hmt hlt).1) (fun hlt => (hmt hlt).2) (fun _ => ⟨rfl, R0 _ gL gD⟩) (fun hlt => absurd hlt (by rw [e]; decide)))
      · rintro ⟨f_active, f_epoch, a_dataNodeDown, a_journalDown, a_masterDown, a_inTouch, a_promise, a_base, a_logLength, a_logEpoch, a_logKind, a_logA, a_logB, a_logC, a_inodeState, a_inodePlace, a_inodeClient, a_closeUnits, a_rowLength, a_rowBlock, a_blockStamp, a_replicaHeld, a_replicaStamp, a_unitCount, a_unitValue⟩ k1 k2 k3
        refine br_t ya (ym_tell h4 h5 hwf ?_)
        rintro ⟨g_active, g_epoch, a_nodeUp, a_journalUp, a_masterUp, a_touch, a_log, a_many, b_promise, b_base, a_stamp, a_units, a_unit, a_sort, a_placeOf, a_client, b_rowLength, a_row, a_closedWith, a_stampOf⟩ gT gL gD
        rw [← hT] at gT
        refine br_t z1 (ym_copied (v := (g_active, g_epoch, a_nodeUp, a_journalUp, a_masterUp, a_touch, a_log, a_many, b_promise, b_base, a_stamp, a_units, a_unit, a_sort, a_placeOf, a_client, b_rowLength, a_row, a_closedWith, a_stampOf)) gT h6 gL gD hb hbm (fun hlt => (hmt hlt).1) (fun hlt => (hmt hlt).2) (fun e => by omega) (fun _ => ?_))
        rintro ⟨g_active, g_epoch, a_nodeUp, a_journalUp, a_masterUp, a_touch, a_log, a_many, b_promise, b_base, a_stamp, a_units, a_unit, a_sort, a_placeOf, a_client, b_rowLength, a_row, a_closedWith, a_stampOf⟩ m1 m2
        obtain ⟨⟨_, hm5, ht5, _⟩, _⟩ := hmt hlt
        refine ⟨rfl, R _ _ _ _ _ k1 k2 k3 m1 m2 (fun c hc => ?_) (fun c hc => ?_)⟩
        · by_cases z : c = 16 * t + b
          · subst z; exact ⟨16 * m + b, by omega, by rw [qt_us]; exact Nat.le_refl _⟩
          · exact ⟨c, hc, by rw [qt_un z]; exact Nat.le_refl _⟩
        · by_cases z : c = 16 * t + b
          · subst z; rw [qt_us]; exact hb.2 _ (by omega)
          · rw [qt_un z]; exact hb.2 c hc
    · refine ix_t hd rfl (by decide) (fun hlt e => ?_) (fun e => bad z1 (fun z => by omega))
      subst e
      refine ⟨vp_in_nI hlt (by decide), cd_if (cd_n (h3.1 d hlt) (by omega)) (fun hu => ?_) (fun hu => bad z1 (fun z => hu z.2))⟩
      refine xm_drop h1 h6 h2 h3 hb hlt hkeep ?_
      rintro ⟨f_active, f_epoch, a_dataNodeDown, a_journalDown, a_masterDown, a_inTouch, a_promise, a_base, a_logLength, a_logEpoch, a_logKind, a_logA, a_logB, a_logC, a_inodeState, a_inodePlace, a_inodeClient, a_closeUnits, a_rowLength, a_rowBlock, a_blockStamp, a_replicaHeld, a_replicaStamp, a_unitCount, a_unitValue⟩ k1 k2 k3
      refine br_t ya (ym_tell h4 h5 hwf ?_)
      rintro ⟨g_active, g_epoch, a_nodeUp, a_journalUp, a_masterUp, a_touch, a_log, a_many, b_promise, b_base, a_stamp, a_units, a_unit, a_sort, a_placeOf, a_client, b_rowLength, a_row, a_closedWith, a_stampOf⟩ gT gL gD
      rw [← hT] at gT
      refine br_f z1 (ym_in hd (by decide) rfl (fun _ => br_f bo_1 ⟨vp_in_nI hlt (by decide), br_f ((not_congr (cd_p (gD.1 d hlt) (by omega))).mpr (by rw [hu]; decide)) ?_⟩) (fun e => by omega))
      refine ym_drop gT h6 gL gD hb hlt hkeep ?_ _ _ _ _ _ _ _ _ _ _ _ _ _ _ _ _ _ _ _ _ rfl
      intro v' m1 m2
      exact ⟨rfl, R _ _ _ _ _ k1 k2 k3 m1 m2 (fun c hc => ⟨c, hc, rd_drB (Nat.le_refl _)⟩) hb.2⟩
