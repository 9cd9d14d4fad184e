/-! node, block -/
def rl_nv (T : qt_T) (ml mn n w : Nat) : Int32 :=
  if n < 12 ∧ w < 13 then (if w = 0 then nI (qt_so T n) else if qt_so T n = 0 then -1 else if w = 1 then qt_m (qt_pl T n) else if w = 2 then (if qt_so T n = 2 then qt_m (qt_cl T n) else -1)
    else if w = 3 then (if qt_so T n = 1 then nI (rd_cn (qt_ef T n) 12) else nI (qt_rl T n)) else if w = 4 then (if qt_so T n = 1 then 0 else nI ml) else if qt_so T n = 1 then ls_v 12 mn else -1) else -1
theorem rd_fd24 {T : qt_T} {nu : Nat → Bool} {st un : Nat → Nat} {n J : Nat} (hI : qt_iv T) (hn : n < 12) (hJ : 24 ≤ J) : ¬ rd_fd T nu st un n J := by
  intro z
  have := z.1
  have := qt_iv4 hI n hn
  omega
section
variable {T : qt_T} {mu ju : Nat → Bool} {ac ep : Nat} {to : Nat → Bool} {pr ba le : Nat → Nat} {lg : Nat → Nat → qt_R} {nu : Nat → Bool} {st un : Nat → Nat} {ua : Nat → Int32}
theorem xm_countReadableUnits {u : SX} (h : sx_T T u) (hI : qt_iv T) (hD : sx_D (nu, st, un, ua) u) (hb : rd_bd (nu, st, un, ua)) {post : Int32 → Prop} {n m : Nat} (hn : n < 12) (hm : ls_f (fun J => ¬ rd_fd T nu st un n J) 24 m) (hp : post (nI m)) : wpX_countReadableUnits post u (nI n) := by
  obtain ⟨f_active, f_epoch, a_dataNodeDown, a_journalDown, a_masterDown, a_inTouch, a_promise, a_base, a_logLength, a_logEpoch, a_logKind, a_logA, a_logB, a_logC, a_inodeState, a_inodePlace, a_inodeClient, a_closeUnits, a_rowLength, a_rowBlock, a_blockStamp, a_replicaHeld, a_replicaStamp, a_unitCount, a_unitValue⟩ := u
  refine ⟨25, lq_s (fun n' d => wX_countReadableUnits_5 post (nI n) 24 f_active f_epoch a_dataNodeDown a_journalDown a_masterDown a_inTouch a_promise a_base a_logLength a_logEpoch a_logKind a_logA a_logB a_logC a_inodeState a_inodePlace a_inodeClient a_closeUnits a_rowLength a_rowBlock a_blockStamp a_replicaHeld a_replicaStamp a_unitCount a_unitValue n' (nI d)) 24 m hm.1 (fun n' e => ?_) (fun n' hlt => ?_) (fun n' d hd H => ?_) 25 0 (by omega) (by omega)⟩
  · subst e
    exact br_t lb_t hp
  · have z := hm.2.2 hlt
    exact br_f (lb_f hlt) (xm_findUnit (u := (f_active, f_epoch, a_dataNodeDown, a_journalDown, a_masterDown, a_inTouch, a_promise, a_base, a_logLength, a_logEpoch, a_logKind, a_logA, a_logB, a_logC, a_inodeState, a_inodePlace, a_inodeClient, a_closeUnits, a_rowLength, a_rowBlock, a_blockStamp, a_replicaHeld, a_replicaStamp, a_unitCount, a_unitValue)) h hI hD hb hn (by omega) (fun _ => br_t rfl hp) (fun y => absurd y z))
  · have hlt : d < 24 := by have := hm.1; omega
    have z := hm.2.1 d hd
    exact br_f (lb_f hlt) (xm_findUnit (u := (f_active, f_epoch, a_dataNodeDown, a_journalDown, a_masterDown, a_inTouch, a_promise, a_base, a_logLength, a_logEpoch, a_logKind, a_logA, a_logB, a_logC, a_inodeState, a_inodePlace, a_inodeClient, a_closeUnits, a_rowLength, a_rowBlock, a_blockStamp, a_replicaHeld, a_replicaStamp, a_unitCount, a_unitValue)) h hI hD hb hn (by omega) (fun y => absurd y z) (fun _ _ _ _ => br_f (nu_ne _) (nm_r (nI_1 d) H)))
theorem ym_length {v : SY} (h : sy_T T v) (hI : qt_iv T) (hD : sy_D (nu, st, un, ua) v) (hb : rd_bd (nu, st, un, ua)) {post : Int32 → Prop} {n m : Nat} (hn : n < 12) (hs : 2 ≤ qt_so T n) (hm : ls_f (fun J => ¬ rd_fd T nu st un n J) 24 m) (hp : post (nI m)) : wpY_length post v (nI n) := by
  obtain ⟨f_active, f_epoch, a_nodeUp, a_journalUp, a_masterUp, a_touch, a_log, a_many, a_promise, a_base, a_stamp, a_units, a_unit, a_sort, a_placeOf, a_client, a_rowLength, a_row, a_closedWith, a_stampOf⟩ := v
  have hm1 := hm.1
  have z : ¬ rd_fd T nu st un n m := by
    by_cases hlt : m < 24
    · exact hm.2.2 hlt
    · exact rd_fd24 hI hn (by omega)
  refine ⟨26, lq_s (fun n' d => wY_length_2 post (nI n) f_active f_epoch a_nodeUp a_journalUp a_masterUp a_touch a_log a_many a_promise a_base a_stamp a_units a_unit a_sort a_placeOf a_client a_rowLength a_row a_closedWith a_stampOf n' (nI d)) 25 m (by omega) (fun n' e => by omega) (fun n' hlt => ?_) (fun n' d hd H => ?_) 26 0 (by omega) (by omega)⟩
  · exact ym_found (v := (f_active, f_epoch, a_nodeUp, a_journalUp, a_masterUp, a_touch, a_log, a_many, a_promise, a_base, a_stamp, a_units, a_unit, a_sort, a_placeOf, a_client, a_rowLength, a_row, a_closedWith, a_stampOf)) (post := fun r_1 => (((r_1 = 10000000000 → (post (nI m))) ∧ (¬ r_1 = 10000000000 → (∀ x, x = nI m + 1 → (wY_length_2 post (nI n) f_active f_epoch a_nodeUp a_journalUp a_masterUp a_touch a_log a_many a_promise a_base a_stamp a_units a_unit a_sort a_placeOf a_client a_rowLength a_row a_closedWith a_stampOf n' x)))))) h hI hD hb hn hs (by omega) (fun _ => br_t rfl hp) (fun y => absurd y z)
  · have z := hm.2.1 d hd
    exact ym_found (v := (f_active, f_epoch, a_nodeUp, a_journalUp, a_masterUp, a_touch, a_log, a_many, a_promise, a_base, a_stamp, a_units, a_unit, a_sort, a_placeOf, a_client, a_rowLength, a_row, a_closedWith, a_stampOf)) (post := fun r_1 => (((r_1 = 10000000000 → (post (nI d))) ∧ (¬ r_1 = 10000000000 → (∀ x, x = nI d + 1 → (wY_length_2 post (nI n) f_active f_epoch a_nodeUp a_journalUp a_masterUp a_touch a_log a_many a_promise a_base a_stamp a_units a_unit a_sort a_placeOf a_client a_rowLength a_row a_closedWith a_stampOf n' x)))))) h hI hD hb hn hs (by omega) (fun y => absurd y z) (fun _ _ _ _ => br_f (nu_ne _) (nm_r (nI_1 d) H))
theorem xm_node {u : SX} (h : sx_T T u) (hI : qt_iv T) (hL : sx_L (mu, ju, ac, ep, to, pr, ba, le, lg) u) (hD : sx_D (nu, st, un, ua) u) (hb : rd_bd (nu, st, un, ua)) (hac2 : ac ≤ 2) {post : Int32 → Prop} {p q : Int32} {n w ml mn : Nat} (hn : ix_c p 12 n) (hw : ix_c q 13 w) (hml : ls_f (fun J => ¬ rd_fd T nu st un n J) 24 ml) (hmn : ls_f (fun i => 1 ≤ i ∧ qt_so T i ≠ 0 ∧ qt_pl T i = 8 * n + (w - 5) + 1) 12 mn)
    (h0 : ac = 0 → post (-1)) (h1 : 0 < ac → post (rl_nv T ml mn n w)) : wpX_node post u p q := by
  obtain ⟨f_active, f_epoch, a_dataNodeDown, a_journalDown, a_masterDown, a_inTouch, a_promise, a_base, a_logLength, a_logEpoch, a_logKind, a_logA, a_logB, a_logC, a_inodeState, a_inodePlace, a_inodeClient, a_closeUnits, a_rowLength, a_rowBlock, a_blockStamp, a_replicaHeld, a_replicaStamp, a_unitCount, a_unitValue⟩ := u
  refine cd_if (xm_act hL.1 hac2) h0 (fun za => ?_)
  have hp := h1 (by omega)
  clear h0 h1
  unfold rl_nv at hp
  refine ix_t2 hn rfl (by decide) (fun hlt e => ?_) (fun e => ?_)
  · subst e
    have hv := vp_in_nI hlt (by decide : 12 < 2 ^ 31)
    have hc : (nI n).toNatClampNeg = n := nI_clamp (by omega)
    have hs3 := qt_iv3 hI n hlt
    have es : a_inodeState n = nI (qt_so T n) := qt_ag1 h n hlt
    rw [hc, es]
    by_cases w0 : w = 0
    · subst w0
      have e := ix_i hw (by decide)
      subst e
      rw [if_pos ⟨hlt, by decide⟩, if_pos rfl] at hp
      exact br_t rfl ⟨hv, hp⟩
    have hq0 : ¬ q = 0 := by
      intro z
      rcases hw with ⟨w1, w2⟩ | ⟨w1, w2 | ⟨w2, w3⟩⟩
      · rw [z] at w2
        have := (nI_eq (a := 0) (by decide) (by omega)).mp w2
        omega
      · rw [z] at w2; exact absurd w2 (by decide)
      · rw [z] at w2; exact absurd w2 (by decide)
    refine br_f hq0 ⟨hv, cd_if (nI_eq (b := 0) (by omega) (by decide)) (fun z => ?_) (fun z => ⟨hv, ?_⟩)⟩
    · by_cases w13 : w < 13
      · rw [if_pos ⟨hlt, w13⟩, if_neg w0, if_pos z] at hp; exact hp
      · rw [if_neg (fun y => w13 y.2)] at hp; exact hp
    · have s57 : ∀ f : Int32, (f = 0 ↔ ¬ qt_so T n = 1) → wX_node_57 post (nI n) q f f_active f_epoch a_dataNodeDown a_journalDown a_masterDown a_inTouch a_promise a_base a_logLength a_logEpoch a_logKind a_logA a_logB a_logC a_inodeState a_inodePlace a_inodeClient a_closeUnits a_rowLength a_rowBlock a_blockStamp a_replicaHeld a_replicaStamp a_unitCount a_unitValue := by
        intro f hf
        have fd : ¬ f = 0 ↔ qt_so T n = 1 := by rw [hf]; exact Classical.not_not
        rcases hw with ⟨w1, w2⟩ | ⟨w1, w2 | ⟨w2, w3⟩⟩
        · subst w2
          rw [if_pos ⟨hlt, w1⟩, if_neg w0, if_neg z] at hp
          by_cases w5 : 5 ≤ w
          · rw [if_neg (by omega), if_neg (by omega), if_neg (by omega), if_neg (by omega)] at hp
            refine br_f (fun y => by have := (nI_ltI (b := 1) (by omega) (by decide)).mp y; omega) (br_t ((nI_ltI (a := 4) (by decide) (by omega)).mpr (by omega)) (cd_if hf (fun y => ?_) (fun y => ?_)))
            · rw [if_neg y] at hp; exact hp
            · have y' : qt_so T n = 1 := Classical.not_not.mp y
              rw [if_pos y'] at hp
              refine br_f (fun y => by have := (nI_ltI (b := 5) (by omega) (by decide)).mp y; omega) (br_f (lb_f w1) ?_)
              rw [show nI w - 5 = nI (w - 5) from pk_sub (b := 5) w5]
              exact xm_inodeAt (u := (f_active, f_epoch, a_dataNodeDown, a_journalDown, a_masterDown, a_inTouch, a_promise, a_base, a_logLength, a_logEpoch, a_logKind, a_logA, a_logB, a_logC, a_inodeState, a_inodePlace, a_inodeClient, a_closeUnits, a_rowLength, a_rowBlock, a_blockStamp, a_replicaHeld, a_replicaStamp, a_unitCount, a_unitValue)) h hI hlt (by omega) hmn hp
          · have hw4 : w = 1 ∨ w = 2 ∨ w = 3 ∨ w = 4 := by omega
            rcases hw4 with rfl | rfl | rfl | rfl
            · rw [if_pos rfl] at hp
              refine br_f (by decide) (br_f (by decide) (br_t rfl ⟨hv, ?_⟩))
              rw [hc, qt_ag2 h n hlt]; exact hp
            · rw [if_neg (by decide), if_pos rfl] at hp
              refine br_f (by decide) (br_f (by decide) (br_f (by decide) (br_t rfl ⟨hv, ?_⟩)))
              rw [hc, es]
              refine cd_if (nI_eq (b := 2) (by omega) (by decide)) (fun y => ⟨hv, ?_⟩) (fun y => ?_)
              · rw [if_pos y] at hp; rw [qt_ag3 h n hlt y]; exact hp
              · rw [if_neg y] at hp; exact hp
            · rw [if_neg (by decide), if_neg (by decide), if_pos rfl] at hp
              refine br_f (by decide) (br_f (by decide) (br_f (by decide) (br_f (by decide) (br_t rfl (cd_if hf (fun y => ⟨hv, ?_⟩) (fun y => ?_))))))
              · rw [if_neg y] at hp; rw [hc, qt_ag5 h n hlt]; exact hp
              · rw [if_pos (Classical.not_not.mp y)] at hp
                exact xm_countEntries (u := (f_active, f_epoch, a_dataNodeDown, a_journalDown, a_masterDown, a_inTouch, a_promise, a_base, a_logLength, a_logEpoch, a_logKind, a_logA, a_logB, a_logC, a_inodeState, a_inodePlace, a_inodeClient, a_closeUnits, a_rowLength, a_rowBlock, a_blockStamp, a_replicaHeld, a_replicaStamp, a_unitCount, a_unitValue)) h hI hlt hp
            · rw [if_neg (by decide), if_neg (by decide), if_neg (by decide), if_pos rfl] at hp
              refine br_f (by decide) (br_f (by decide) (br_f (by decide) (br_f (by decide) (br_f (by decide) (br_t rfl (cd_if hf (fun y => ?_) (fun y => ?_)))))))
              · rw [if_neg y] at hp
                exact xm_countReadableUnits (u := (f_active, f_epoch, a_dataNodeDown, a_journalDown, a_masterDown, a_inTouch, a_promise, a_base, a_logLength, a_logEpoch, a_logKind, a_logA, a_logB, a_logC, a_inodeState, a_inodePlace, a_inodeClient, a_closeUnits, a_rowLength, a_rowBlock, a_blockStamp, a_replicaHeld, a_replicaStamp, a_unitCount, a_unitValue)) h hI hD hb hlt hml hp
              · rw [if_pos (Classical.not_not.mp y)] at hp; exact hp
        · rw [if_neg (by omega)] at hp
          have q1 : q < 1 := Int32.lt_trans w2 (by decide)
          have q5 : q < 5 := Int32.lt_trans w2 (by decide)
          exact br_t q1 (cd_if hf (fun _ => hp) (fun _ => br_t q5 hp))
        · rw [if_neg (by omega)] at hp
          obtain ⟨j, hj, rfl⟩ := nI_of w3
          have hj13 : 13 ≤ j := (nI_leI (a := 13) (by decide) hj).mp w2
          exact br_f (fun y => by have := (nI_ltI (b := 1) hj (by decide)).mp y; omega) (br_t ((nI_ltI (a := 4) (by decide) hj).mpr (by omega)) (cd_if hf (fun _ => hp) (fun _ => br_f (fun y => by have := (nI_ltI (b := 5) hj (by decide)).mp y; omega) (br_t w2 hp))))
      exact cd_if (nI_eq (b := 1) (by omega) (by decide)) (fun y => s57 1 ⟨fun x => absurd x bo_1, fun x => absurd y x⟩) (fun y => s57 0 ⟨fun _ => y, fun _ => rfl⟩)
  · rw [if_neg (by omega)] at hp; exact hp
theorem ym_node {v : SY} (hI : qt_iv T) (hL : sy_L (mu, ju, ac, ep, to, pr, ba, le, lg) v) (hD : sy_D (nu, st, un, ua) v) (hb : rd_bd (nu, st, un, ua)) (hac2 : ac ≤ 2) (hwf : ∀ j, j < 3 → qt_wf (lg j) (le j) ∧ le j ≤ 1000) (hT : 0 < ac → T = qt_ab (lg (lj_src to)) (le (lj_src to))) {post : Int32 → SY → Prop} {p q : Int32} {n w ml mn : Nat} (hn : ix_c p 12 n) (hw : ix_c q 13 w) (hml : ls_f (fun J => ¬ rd_fd T nu st un n J) 24 ml) (hmn : ls_f (fun i => 1 ≤ i ∧ qt_so T i ≠ 0 ∧ qt_pl T i = 8 * n + (w - 5) + 1) 12 mn)
    (h0 : ac = 0 → post (-1) v) (h1 : 0 < ac → ∀ v', sy_L (mu, ju, ac, ep, to, pr, ba, le, lg) v' → sy_D (nu, st, un, ua) v' → post (rl_nv T ml mn n w) v') : wpY_node post v p q := by
  obtain ⟨f_active, f_epoch, a_nodeUp, a_journalUp, a_masterUp, a_touch, a_log, a_many, a_promise, a_base, a_stamp, a_units, a_unit, a_sort, a_placeOf, a_client, a_rowLength, a_row, a_closedWith, a_stampOf⟩ := v
  refine cd_if (show f_active < 0 ↔ ac = 0 by rw [show f_active = qt_m ac from hL.1, qt_mZ (by omega)]) h0 (fun za => ?_)
  have ha : 0 < ac := by omega
  have out : ¬ (n < 12 ∧ w < 13) → post (-1) (f_active, f_epoch, a_nodeUp, a_journalUp, a_masterUp, a_touch, a_log, a_many, a_promise, a_base, a_stamp, a_units, a_unit, a_sort, a_placeOf, a_client, a_rowLength, a_row, a_closedWith, a_stampOf) := by
    intro z
    have := h1 ha _ hL hD
    unfold rl_nv at this
    rw [if_neg z] at this
    exact this
  refine ym_in hn (by decide) rfl (fun hlt => br_f bo_1 (ym_in hw (by decide) rfl (fun w13 => br_f bo_1 ?_) (fun e => br_t rfl (out (fun z => by omega))))) (fun e => br_t rfl (out (fun z => by omega)))
  refine ym_tell (v := (f_active, f_epoch, a_nodeUp, a_journalUp, a_masterUp, a_touch, a_log, a_many, a_promise, a_base, a_stamp, a_units, a_unit, a_sort, a_placeOf, a_client, a_rowLength, a_row, a_closedWith, a_stampOf)) hL hD hwf ?_
  clear out
  rintro ⟨f_active, f_epoch, a_nodeUp, a_journalUp, a_masterUp, a_touch, a_log, a_many, a_promise, a_base, a_stamp, a_units, a_unit, a_sort, a_placeOf, a_client, a_rowLength, a_row, a_closedWith, a_stampOf⟩ gT gL gD
  rw [← hT ha] at gT
  have hp := h1 ha _ gL gD
  clear h0 h1
  unfold rl_nv at hp
  rw [if_pos ⟨hlt, w13⟩] at hp
  have e := ix_i hn hlt
  have e' := ix_i hw w13
  subst e e'
  have hv := vp_in_nI hlt (by decide : 12 < 2 ^ 31)
  have hc : (nI n).toNatClampNeg = n := nI_clamp (by omega)
  have hs3 := qt_iv3 hI n hlt
  have es : a_sort n = nI (qt_so T n) := qt_ag1 gT n hlt
  dsimp only
  rw [hc, es]
  refine cd_if (nI_eq (b := 0) (by omega) (by decide)) (fun z0 => ⟨hv, ?_⟩) (fun z0 => ⟨hv, cd_if (nI_eq (b := 0) (by omega) (by decide)) (fun z => ?_) (fun z => cd_if (nI_eq (b := 1) (by omega) (by decide)) (fun z1 => ⟨hv, ?_⟩) (fun z1 => cd_if (nI_eq (b := 2) (by omega) (by decide)) (fun z2 => ⟨hv, ?_⟩) (fun z2 => ⟨hv, ?_⟩)))⟩)
  · rw [if_pos z0] at hp; exact hp
  · rw [if_neg z0, if_pos z] at hp; exact hp
  · rw [if_neg z0, if_neg z, if_pos z1] at hp
    rw [qt_ag2 gT n hlt]; exact hp
  · rw [if_neg z0, if_neg z, if_neg z1, if_pos z2] at hp
    refine cd_if (nI_eq (b := 2) (by omega) (by decide)) (fun y => ⟨hv, ?_⟩) (fun y => ?_)
    · rw [if_pos y] at hp; rw [qt_ag3 gT n hlt y]; exact hp
    · rw [if_neg y] at hp; exact hp
  · rw [if_neg z0, if_neg z, if_neg z1, if_neg z2] at hp
    have s106 : ∀ f : Int32, (f = 0 ↔ ¬ qt_so T n = 1) → wY_node_106 post (nI n) (nI w) f f_active f_epoch a_nodeUp a_journalUp a_masterUp a_touch a_log a_many a_promise a_base a_stamp a_units a_unit a_sort a_placeOf a_client a_rowLength a_row a_closedWith a_stampOf := by
      intro f hf
      refine cd_if (nI_eq (b := 3) (by omega) (by decide)) (fun z3 => cd_if hf (fun y => ⟨hv, ?_⟩) (fun y => ?_)) (fun z3 => cd_if (nI_eq (b := 4) (by omega) (by decide)) (fun z4 => cd_if hf (fun y => ?_) (fun y => ?_)) (fun z4 => cd_if hf (fun y => ?_) (fun y => ?_)))
      · rw [if_pos z3, if_neg y] at hp; rw [hc, qt_ag5 gT n hlt]; exact hp
      · rw [if_pos z3, if_pos (Classical.not_not.mp y)] at hp
        exact ym_inside (v := (f_active, f_epoch, a_nodeUp, a_journalUp, a_masterUp, a_touch, a_log, a_many, a_promise, a_base, a_stamp, a_units, a_unit, a_sort, a_placeOf, a_client, a_rowLength, a_row, a_closedWith, a_stampOf)) gT hI hlt hp
      · rw [if_neg z3, if_pos z4, if_neg y] at hp
        exact ym_length (v := (f_active, f_epoch, a_nodeUp, a_journalUp, a_masterUp, a_touch, a_log, a_many, a_promise, a_base, a_stamp, a_units, a_unit, a_sort, a_placeOf, a_client, a_rowLength, a_row, a_closedWith, a_stampOf)) gT hI gD hb hlt (by omega) hml hp
      · rw [if_neg z3, if_pos z4, if_pos (Classical.not_not.mp y)] at hp; exact hp
      · rw [if_neg z3, if_neg z4, if_neg y] at hp; exact hp
      · rw [if_neg z3, if_neg z4, if_pos (Classical.not_not.mp y)] at hp
        have w5 : 5 ≤ w := by omega
        rw [show nI w - 5 = nI (w - 5) from pk_sub (b := 5) w5]
        exact ym_named (v := (f_active, f_epoch, a_nodeUp, a_journalUp, a_masterUp, a_touch, a_log, a_many, a_promise, a_base, a_stamp, a_units, a_unit, a_sort, a_placeOf, a_client, a_rowLength, a_row, a_closedWith, a_stampOf)) gT hI hlt (by omega) hmn hp
    exact cd_if (nI_eq (b := 1) (by omega) (by decide)) (fun y => s106 1 ⟨fun x => absurd x bo_1, fun x => absurd y x⟩) (fun y => s106 0 ⟨fun _ => y, fun _ => rfl⟩)
end
theorem i_vc_node {k : Nat} {u : SX} {v : SY} (I : i_Rel k u v) (hk : k + 4 ≤ 2048) (v1 : Int32) (v2 : Int32) : wpX_node (fun r => wpY_node (fun r' v' => r' = r ∧ i_Rel (k + 4) u v') v v1 v2) u v1 v2 := by
  have I' := i_up I
  obtain ⟨T, ⟨mu, ju, ac, ep, to, pr, ba, le, lg⟩, ⟨nu, st, un, ua⟩, h1, h2, h3, h4, h5, h6, h7, h8⟩ := I
  have hb := rl_bd h7 (by omega) h8
  have i5 := h7.2.2.2.2.1
  have R0 : ∀ v', sy_L (mu, ju, ac, ep, to, pr, ba, le, lg) v' → sy_D (nu, st, un, ua) v' → i_Rel (k + 4) u v' := fun v' g1 g2 => ⟨T, _, _, h1, h2, h3, g1, g2, h6, lj_ivK (by omega) h7, h8⟩
  obtain ⟨n, hn⟩ := ix_e v1 (N := 12) (by decide)
  obtain ⟨w, hw⟩ := ix_e v2 (N := 13) (by decide)
  obtain ⟨ml, hml⟩ := ls_ex (fun J => ¬ rd_fd T nu st un n J) 24
  obtain ⟨mn, hmn⟩ := ls_ex (fun i => 1 ≤ i ∧ qt_so T i ≠ 0 ∧ qt_pl T i = 8 * n + (w - 5) + 1) 12
  have Y := fun (r : Int32) (a : ac = 0 → -1 = r) (b : 0 < ac → rl_nv T ml mn n w = r) => ym_node (post := fun r' v' => r' = r ∧ i_Rel (k + 4) u v') h6 h4 h5 hb h7.2.1 (fun j hj => ⟨(i5 j hj).1, (i5 j hj).2.2.2⟩) (fun z => (h7.2.2.2.2.2 z).2.2) hn hw hml hmn (fun z => ⟨a z, I'⟩) (fun z v' g1 g2 => ⟨b z, R0 v' g1 g2⟩)
  exact xm_node h1 h6 h2 h3 hb h7.2.1 hn hw hml hmn (fun z => Y _ (fun _ => rfl) (fun y => by omega)) (fun z => Y _ (fun y => by omega) (fun _ => rfl))
