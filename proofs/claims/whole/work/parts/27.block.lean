/-! block -/
def rl_bv (T : qt_T) (nu : Nat → Bool) (st un : Nat → Nat) (hb : Bool) (n K : Nat) (w : Int32) : Int32 :=
  if n < 12 ∧ 2 ≤ qt_so T n ∧ K < qt_rl T n then (if w = 0 then nI (qt_ro T (3 * n + K)) else if w = 1 then nI (qt_sp T (qt_ro T (3 * n + K))) else if w = 2 then nI (rd_mk (rd_g nu st (qt_ro T (3 * n + K)) (qt_sp T (qt_ro T (3 * n + K)))) 5)
    else if w = 3 then qt_m (rd_fw (rd_g nu st (qt_ro T (3 * n + K)) (qt_sp T (qt_ro T (3 * n + K)))) un (qt_ro T (3 * n + K)) 5) else if w = 4 then bo_p hb else -1) else -1
section
variable {T : qt_T} {mu ju : Nat → Bool} {ac ep : Nat} {to : Nat → Bool} {pr ba le : Nat → Nat} {lg : Nat → Nat → qt_R} {nu : Nat → Bool} {st un : Nat → Nat} {ua : Nat → Int32}
theorem xm_block {u : SX} (h : sx_T T u) (hI : qt_iv T) (hL : sx_L (mu, ju, ac, ep, to, pr, ba, le, lg) u) (hD : sx_D (nu, st, un, ua) u) (hb : rd_bd (nu, st, un, ua)) (hac2 : ac ≤ 2) {post : Int32 → Prop} {p q w : Int32} {n K : Nat} {hh : Bool} (hn : ix_c p 12 n) (hK : ix_c q 3 K) (hhh : hh = true ↔ rd_hg nu st (qt_ro T (3 * n + K)) (qt_sp T (qt_ro T (3 * n + K))))
    (h0 : ac = 0 → post (-1)) (h1 : 0 < ac → post (rl_bv T nu st un hh n K w)) : wpX_block post u p q w := by
  obtain ⟨f_active, f_epoch, a_dataNodeDown, a_journalDown, a_masterDown, a_inTouch, a_promise, a_base, a_logLength, a_logEpoch, a_logKind, a_logA, a_logB, a_logC, a_inodeState, a_inodePlace, a_inodeClient, a_closeUnits, a_rowLength, a_rowBlock, a_blockStamp, a_replicaHeld, a_replicaStamp, a_unitCount, a_unitValue⟩ := u
  refine cd_if (xm_act hL.1 hac2) h0 (fun za => ?_)
  have hp := h1 (by omega)
  clear h0 h1
  unfold rl_bv at hp
  refine xm_isFile (u := (f_active, f_epoch, a_dataNodeDown, a_journalDown, a_masterDown, a_inTouch, a_promise, a_base, a_logLength, a_logEpoch, a_logKind, a_logA, a_logB, a_logC, a_inodeState, a_inodePlace, a_inodeClient, a_closeUnits, a_rowLength, a_rowBlock, a_blockStamp, a_replicaHeld, a_replicaStamp, a_unitCount, a_unitValue)) h hI hn (fun hlt hs => br_f bo_1 ?_) (fun hs => br_t rfl ?_)
  · have e := ix_i hn hlt
    subst e
    have hv := vp_in_nI hlt (by decide : 12 < 2 ^ 31)
    have hc : (nI n).toNatClampNeg = n := nI_clamp (by omega)
    have hr := qt_iv4 hI n hlt
    rcases hK with ⟨k1, rfl⟩ | ⟨k1, k2 | ⟨k2, k3⟩⟩
    · refine br_f (nI_pos (by omega)) ⟨hv, ?_⟩
      rw [hc, qt_ag5 h n hlt]
      refine cd_if (nI_ltI (by omega) (by omega)) (fun z => ?_) (fun z => ?_)
      · rw [if_pos ⟨hlt, hs, z⟩] at hp
        have h5 := qt_iv5 hI n K hlt z
        have hsp := qt_iv8 hI _ h5
        rw [show nI n * 3 + nI K = nI (3 * n + K) from mu_r n 3 K]
        refine ⟨vp_in_nI (by omega) (by decide), nm_r (e' := nI (qt_ro T (3 * n + K))) (by rw [nI_clamp (by omega)]; exact qt_ag6 h n K hlt z) ?_⟩
        generalize qt_ro T (3 * n + K) = b at hp h5 hsp hhh
        rcases ix_s (N := 4) (by decide) w with y | ⟨y, y2⟩ | ⟨w, hw, rfl⟩
        · rw [if_neg (show ¬ w = 0 from sw_n (c := 0) y (by decide)), if_neg (show ¬ w = 1 from sw_n (c := 1) y (by decide)), if_neg (show ¬ w = 2 from sw_n (c := 2) y (by decide)), if_neg (show ¬ w = 3 from sw_n (c := 3) y (by decide)), if_neg (show ¬ w = 4 from sw_n (c := 4) y (by decide))] at hp
          exact br_t y hp
        · rw [if_neg (show ¬ w = 0 from sw_g (c := 0) y2 (by decide) (by decide)), if_neg (show ¬ w = 1 from sw_g (c := 1) y2 (by decide) (by decide)), if_neg (show ¬ w = 2 from sw_g (c := 2) y2 (by decide) (by decide)), if_neg (show ¬ w = 3 from sw_g (c := 3) y2 (by decide) (by decide)), if_neg (show ¬ w = 4 from sw_g (c := 4) y2 (by decide) (by decide))] at hp
          exact br_f y (br_t y2 hp)
        · match w, hw with
          | 0, _ =>
            rw [if_pos (by decide)] at hp
            exact br_f (by decide) (br_f (by decide) (br_t rfl hp))
          | 1, _ =>
            rw [if_neg (by decide), if_pos (by decide)] at hp
            refine br_f (by decide) (br_f (by decide) (br_f (by decide) (br_t rfl ⟨vp_in_nI h5 (by decide), ?_⟩)))
            rw [nI_clamp (by omega), qt_ag7 h b h5 (Or.inl trivial)]; exact hp
          | 2, _ =>
            rw [if_neg (by decide), if_neg (by decide), if_pos (by decide)] at hp
            exact br_f (by decide) (br_f (by decide) (br_f (by decide) (br_f (by decide) (br_t rfl (xm_goodNodes (u := (f_active, f_epoch, a_dataNodeDown, a_journalDown, a_masterDown, a_inTouch, a_promise, a_base, a_logLength, a_logEpoch, a_logKind, a_logA, a_logB, a_logC, a_inodeState, a_inodePlace, a_inodeClient, a_closeUnits, a_rowLength, a_rowBlock, a_blockStamp, a_replicaHeld, a_replicaStamp, a_unitCount, a_unitValue)) h hI hD hb h5 hp)))))
          | 3, _ =>
            rw [if_neg (by decide), if_neg (by decide), if_neg (by decide), if_pos (by decide)] at hp
            exact br_f (by decide) (br_f (by decide) (br_f (by decide) (br_f (by decide) (br_f (by decide) (br_t rfl (xm_fewestUnits (u := (f_active, f_epoch, a_dataNodeDown, a_journalDown, a_masterDown, a_inTouch, a_promise, a_base, a_logLength, a_logEpoch, a_logKind, a_logA, a_logB, a_logC, a_inodeState, a_inodePlace, a_inodeClient, a_closeUnits, a_rowLength, a_rowBlock, a_blockStamp, a_replicaHeld, a_replicaStamp, a_unitCount, a_unitValue)) h hI hD hb h5 hp))))))
          | 4, _ =>
            rw [if_neg (by decide), if_neg (by decide), if_neg (by decide), if_neg (by decide), if_pos (by decide)] at hp
            refine br_f (by decide) (br_f (by decide) (br_f (by decide) (br_f (by decide) (br_f (by decide) (br_f (by decide) (br_t rfl (xm_hangs (u := (f_active, f_epoch, a_dataNodeDown, a_journalDown, a_masterDown, a_inTouch, a_promise, a_base, a_logLength, a_logEpoch, a_logKind, a_logA, a_logB, a_logC, a_inodeState, a_inodePlace, a_inodeClient, a_closeUnits, a_rowLength, a_rowBlock, a_blockStamp, a_replicaHeld, a_replicaStamp, a_unitCount, a_unitValue)) h hI hD hb h5 (fun y => br_f bo_1 ?_) (fun y => br_t rfl ?_))))))))
            · rw [hhh.mpr y] at hp; exact hp
            · rw [show hh = false by cases hh; rfl; exact absurd (hhh.mp rfl) y] at hp; exact hp
      · rw [if_neg (fun y => z y.2.2)] at hp; exact hp
    · rw [if_neg (fun y => by omega)] at hp
      exact br_t k2 hp
    · rw [if_neg (fun y => by omega)] at hp
      refine br_f k3 ⟨hv, br_f ?_ hp⟩
      rw [hc, qt_ag5 h n hlt]
      obtain ⟨j, hj, rfl⟩ := nI_of k3
      have hj3 : 3 ≤ j := (nI_leI (a := 3) (by decide) hj).mp k2
      exact fun y => by have := (nI_ltI hj (by omega)).mp y; omega
  · rw [if_neg (fun y => by have := hs y.1; omega)] at hp; exact hp
theorem ym_block {v : SY} (hI : qt_iv T) (hL : sy_L (mu, ju, ac, ep, to, pr, ba, le, lg) v) (hD : sy_D (nu, st, un, ua) v) (hb : rd_bd (nu, st, un, ua)) (hac2 : ac ≤ 2) (hwf : ∀ j, j < 3 → qt_wf (lg j) (le j) ∧ le j ≤ 1000) (hT : 0 < ac → T = qt_ab (lg (lj_src to)) (le (lj_src to))) {post : Int32 → SY → Prop} {p q w : Int32} {n K : Nat} {hh : Bool} (hn : ix_c p 12 n) (hK : ix_c q 3 K) (hhh : hh = true ↔ rd_hg nu st (qt_ro T (3 * n + K)) (qt_sp T (qt_ro T (3 * n + K))))
    (h0 : ac = 0 → post (-1) v) (h1 : 0 < ac → ∀ v', sy_L (mu, ju, ac, ep, to, pr, ba, le, lg) v' → sy_D (nu, st, un, ua) v' → post (rl_bv T nu st un hh n K w) v') : wpY_block post v p q w := by
  obtain ⟨f_active, f_epoch, a_nodeUp, a_journalUp, a_masterUp, a_touch, a_log, a_many, a_promise, a_base, a_stamp, a_units, a_unit, a_sort, a_placeOf, a_client, a_rowLength, a_row, a_closedWith, a_stampOf⟩ := v
  refine cd_if (ym_act hL.1 hac2) (fun ha => ym_tell (v := (f_active, f_epoch, a_nodeUp, a_journalUp, a_masterUp, a_touch, a_log, a_many, a_promise, a_base, a_stamp, a_units, a_unit, a_sort, a_placeOf, a_client, a_rowLength, a_row, a_closedWith, a_stampOf)) hL hD hwf ?_) (fun za => h0 (by omega))
  rintro ⟨f_active, f_epoch, a_nodeUp, a_journalUp, a_masterUp, a_touch, a_log, a_many, a_promise, a_base, a_stamp, a_units, a_unit, a_sort, a_placeOf, a_client, a_rowLength, a_row, a_closedWith, a_stampOf⟩ gT gL gD
  rw [← hT ha] at gT
  have hp := h1 ha _ gL gD
  clear h0 h1
  unfold rl_bv at hp
  refine ym_isFile (v := (f_active, f_epoch, a_nodeUp, a_journalUp, a_masterUp, a_touch, a_log, a_many, a_promise, a_base, a_stamp, a_units, a_unit, a_sort, a_placeOf, a_client, a_rowLength, a_row, a_closedWith, a_stampOf)) gT hI hn (fun hlt hs => br_f bo_1 ?_) (fun hs => br_t rfl ?_)
  · have e := ix_i hn hlt
    subst e
    have hv := vp_in_nI hlt (by decide : 12 < 2 ^ 31)
    have hc : (nI n).toNatClampNeg = n := nI_clamp (by omega)
    have hr := qt_iv4 hI n hlt
    refine ⟨hv, ?_⟩
    rw [hc, qt_ag5 gT n hlt]
    have hKr : ∃ K', ix_c q (qt_rl T n) K' ∧ (K' < qt_rl T n → K' = K) ∧ (K < qt_rl T n → K' = K) := by
      rcases hK with ⟨k1, rfl⟩ | ⟨k1, k2 | ⟨k2, k3⟩⟩
      · by_cases z : K < qt_rl T n
        · exact ⟨K, Or.inl ⟨z, rfl⟩, fun _ => rfl, fun _ => rfl⟩
        · exact ⟨qt_rl T n, Or.inr ⟨rfl, Or.inr ⟨nI_le (by omega) (by omega), nI_pos (by omega)⟩⟩, fun y => by omega, fun y => by omega⟩
      · exact ⟨qt_rl T n, Or.inr ⟨rfl, Or.inl k2⟩, fun y => by omega, fun y => by omega⟩
      · exact ⟨qt_rl T n, Or.inr ⟨rfl, Or.inr ⟨Int32.le_trans (nI_le hr (by decide)) k2, k3⟩⟩, fun y => by omega, fun y => by omega⟩
    obtain ⟨K', hK', hk1, hk2⟩ := hKr
    refine ym_in hK' (by omega) rfl (fun z => br_f bo_1 ?_) (fun z => br_t rfl ?_)
    · have e := hk1 z
      subst e
      have e := ix_i hK' z
      subst e
      rw [if_pos ⟨hlt, hs, z⟩] at hp
      have h5 := qt_iv5 hI n K' hlt z
      have hsp := qt_iv8 hI _ h5
      rw [show 3 * nI n + nI K' = nI (3 * n + K') from mu_l n 3 K']
      refine ⟨vp_in_nI (by omega) (by decide), nm_r (e' := nI (qt_ro T (3 * n + K'))) (by rw [nI_clamp (by omega)]; exact qt_ag6 gT n K' hlt z) ?_⟩
      have hin : qt_in (qt_rl T) (qt_ro T) (qt_ro T (3 * n + K')) := ⟨n, K', hlt, z, rfl⟩
      generalize qt_ro T (3 * n + K') = b at hp h5 hsp hhh hin
      rcases ix_s (N := 4) (by decide) w with y | ⟨y, y2⟩ | ⟨w, hw, rfl⟩
      · rw [if_neg (show ¬ w = 0 from sw_n (c := 0) y (by decide)), if_neg (show ¬ w = 1 from sw_n (c := 1) y (by decide)), if_neg (show ¬ w = 2 from sw_n (c := 2) y (by decide)), if_neg (show ¬ w = 3 from sw_n (c := 3) y (by decide)), if_neg (show ¬ w = 4 from sw_n (c := 4) y (by decide))] at hp
        exact br_t y hp
      · rw [if_neg (show ¬ w = 0 from sw_g (c := 0) y2 (by decide) (by decide)), if_neg (show ¬ w = 1 from sw_g (c := 1) y2 (by decide) (by decide)), if_neg (show ¬ w = 2 from sw_g (c := 2) y2 (by decide) (by decide)), if_neg (show ¬ w = 3 from sw_g (c := 3) y2 (by decide) (by decide)), if_neg (show ¬ w = 4 from sw_g (c := 4) y2 (by decide) (by decide))] at hp
        exact br_f y (br_t y2 hp)
      · match w, hw with
        | 0, _ =>
          rw [if_pos (by decide)] at hp
          exact br_f (by decide) (br_f (by decide) (br_t rfl hp))
        | 1, _ =>
          rw [if_neg (by decide), if_pos (by decide)] at hp
          refine br_f (by decide) (br_f (by decide) (br_f (by decide) (br_t rfl ⟨vp_in_nI h5 (by decide), ?_⟩)))
          rw [nI_clamp (by omega), qt_ag7 gT b h5 (Or.inr hin)]; exact hp
        | 2, _ =>
          rw [if_neg (by decide), if_neg (by decide), if_pos (by decide)] at hp
          exact br_f (by decide) (br_f (by decide) (br_f (by decide) (br_f (by decide) (br_t rfl (ym_goodOnes (v := (f_active, f_epoch, a_nodeUp, a_journalUp, a_masterUp, a_touch, a_log, a_many, a_promise, a_base, a_stamp, a_units, a_unit, a_sort, a_placeOf, a_client, a_rowLength, a_row, a_closedWith, a_stampOf)) gT hI gD hb h5 hin hp)))))
        | 3, _ =>
          rw [if_neg (by decide), if_neg (by decide), if_neg (by decide), if_pos (by decide)] at hp
          exact br_f (by decide) (br_f (by decide) (br_f (by decide) (br_f (by decide) (br_f (by decide) (br_t rfl (ym_bound0 (v := (f_active, f_epoch, a_nodeUp, a_journalUp, a_masterUp, a_touch, a_log, a_many, a_promise, a_base, a_stamp, a_units, a_unit, a_sort, a_placeOf, a_client, a_rowLength, a_row, a_closedWith, a_stampOf)) gT hI gD hb h5 hin hp))))))
        | 4, _ =>
          rw [if_neg (by decide), if_neg (by decide), if_neg (by decide), if_neg (by decide), if_pos (by decide)] at hp
          refine br_f (by decide) (br_f (by decide) (br_f (by decide) (br_f (by decide) (br_f (by decide) (br_f (by decide) (br_t rfl (ym_hangs (v := (f_active, f_epoch, a_nodeUp, a_journalUp, a_masterUp, a_touch, a_log, a_many, a_promise, a_base, a_stamp, a_units, a_unit, a_sort, a_placeOf, a_client, a_rowLength, a_row, a_closedWith, a_stampOf)) gT hI gD hb h5 hin (fun y => br_f bo_1 ?_) (fun y => br_t rfl ?_))))))))
          · rw [hhh.mpr y] at hp; exact hp
          · rw [show hh = false by cases hh; rfl; exact absurd (hhh.mp rfl) y] at hp; exact hp
    · rw [if_neg (fun y => by have := hk2 y.2.2; have := y.2.2; omega)] at hp; exact hp
  · rw [if_neg (fun y => by have := hs y.1; omega)] at hp; exact hp
end
theorem i_vc_block {k : Nat} {u : SX} {v : SY} (I : i_Rel k u v) (hk : k + 4 ≤ 2048) (v1 : Int32) (v2 : Int32) (v3 : Int32) : wpX_block (fun r => wpY_block (fun r' v' => r' = r ∧ i_Rel (k + 4) u v') v v1 v2 v3) u v1 v2 v3 := by
  have I' := i_up I
  obtain ⟨T, ⟨mu, ju, ac, ep, to, pr, ba, le, lg⟩, ⟨nu, st, un, ua⟩, h1, h2, h3, h4, h5, h6, h7, h8⟩ := I
  have hb := rl_bd h7 (by omega) h8
  have i5 := h7.2.2.2.2.1
  have R0 : ∀ v', sy_L (mu, ju, ac, ep, to, pr, ba, le, lg) v' → sy_D (nu, st, un, ua) v' → i_Rel (k + 4) u v' := fun v' g1 g2 => ⟨T, _, _, h1, h2, h3, g1, g2, h6, lj_ivK (by omega) h7, h8⟩
  obtain ⟨n, hn⟩ := ix_e v1 (N := 12) (by decide)
  obtain ⟨K, hK⟩ := ix_e v2 (N := 3) (by decide)
  obtain ⟨hh, hhh⟩ : ∃ hh : Bool, hh = true ↔ rd_hg nu st (qt_ro T (3 * n + K)) (qt_sp T (qt_ro T (3 * n + K))) := by
    obtain ⟨f, hf⟩ := bo_ex (fun _ => rd_hg nu st (qt_ro T (3 * n + K)) (qt_sp T (qt_ro T (3 * n + K))))
    exact ⟨f 0, hf 0⟩
  have Y := fun (r : Int32) (a : ac = 0 → -1 = r) (b : 0 < ac → rl_bv T nu st un hh n K v3 = r) => ym_block (post := fun r' v' => r' = r ∧ i_Rel (k + 4) u v') h6 h4 h5 hb h7.2.1 (fun j hj => ⟨(i5 j hj).1, (i5 j hj).2.2.2⟩) (fun z => (h7.2.2.2.2.2 z).2.2) hn hK hhh (fun z => ⟨a z, I'⟩) (fun z v' g1 g2 => ⟨b z, R0 v' g1 g2⟩)
  exact xm_block h1 h6 h2 h3 hb h7.2.1 hn hK hhh (fun z => Y _ (fun _ => rfl) (fun y => by omega)) (fun z => Y _ (fun y => by omega) (fun _ => rfl))
