/-! replica, journal, status -/
theorem ix_s {N : Nat} (hN : N < 2 ^ 31) (x : Int32) : x < 0 ∨ (¬ x < 0 ∧ nI N < x) ∨ ∃ j, j ≤ N ∧ x = nI j := by
  by_cases h : x < 0
  · exact Or.inl h
  · obtain ⟨j, hj, rfl⟩ := nI_of h
    by_cases h2 : j ≤ N
    · exact Or.inr (Or.inr ⟨j, h2, rfl⟩)
    · exact Or.inr (Or.inl ⟨h, nI_lt (by omega) hj⟩)
theorem ix_t2 {x y : Int32} {N n : Nat} {A B : Prop} (h : ix_c x N n) (hy : y = nI N) (hN : N < 2 ^ 31) (a : n < N → x = nI n → A) (b : n = N → B) : (x < 0 → B) ∧ (¬ x < 0 → (x < y → A) ∧ (¬ x < y → B)) := by
  subst hy
  rcases h with ⟨h1, rfl⟩ | ⟨rfl, h | ⟨h, h'⟩⟩
  · refine ⟨fun z => absurd z (nI_pos (by omega)), fun _ => ⟨fun _ => a h1 rfl, fun z => absurd (nI_lt h1 hN) z⟩⟩
  · exact ⟨fun _ => b rfl, fun z => absurd h z⟩
  · exact ⟨fun z => absurd z h', fun _ => ⟨fun z => absurd z (Int32.not_lt.mpr h), fun _ => b rfl⟩⟩
theorem rl_ep {k : Nat} {L : lj_L} {T : qt_T} (h : lj_iv k L T) (hk : k ≤ 2048) : lj_ep L ≤ 512 := by
  obtain ⟨mu, ju, ac, ep, to, pr, ba, le, lg⟩ := L
  have := h.1
  show ep ≤ 512
  omega
theorem rl_len {k : Nat} {L : lj_L} {T : qt_T} (h : lj_iv k L T) : lj_len L ≤ 1000 := by
  obtain ⟨mu, ju, ac, ep, to, pr, ba, le, lg⟩ := L
  exact (h.2.2.2.2.1 _ (lj_srcL to)).2.2.2
theorem rl_bd {k : Nat} {L : lj_L} {T : qt_T} {D : rd_D} (h : lj_iv k L T) (hk : k ≤ 2048) (hD : rd_iv L D) : rd_bd D := by
  obtain ⟨nu, st, un, ua⟩ := D
  have h1 := rl_ep h hk
  have h2 := rl_len h
  refine ⟨fun c hc => ?_, hD.2⟩
  have := hD.1 c hc
  split at this <;> omega
def rd_rv (st un : Nat → Nat) (d b : Nat) (w : Int32) : Int32 := if d < 5 ∧ b < 16 then (if st (16 * d + b) = 0 then -1 else if w = 0 then qt_m (st (16 * d + b)) else if w = 1 then nI (un (16 * d + b)) else -1) else -1
theorem xm_replica {nu : Nat → Bool} {st un : Nat → Nat} {ua : Nat → Int32} {u : SX} (hD : sx_D (nu, st, un, ua) u) {post : Int32 → Prop} {p q w : Int32} {d b : Nat} (hd : ix_c p 5 d) (hb : ix_c q 16 b) (hp : post (rd_rv st un d b w)) : wpX_replica post u p q w := by
  obtain ⟨f_active, f_epoch, a_dataNodeDown, a_journalDown, a_masterDown, a_inTouch, a_promise, a_base, a_logLength, a_logEpoch, a_logKind, a_logA, a_logB, a_logC, a_inodeState, a_inodePlace, a_inodeClient, a_closeUnits, a_rowLength, a_rowBlock, a_blockStamp, a_replicaHeld, a_replicaStamp, a_unitCount, a_unitValue⟩ := u
  unfold rd_rv at hp
  refine ix_t hd rfl (by decide) (fun d5 e => ?_) (fun e => ?_)
  · refine ix_t2 hb rfl (by decide) (fun b16 e' => ?_) (fun e' => ?_)
    · subst e e'
      have hc : 16 * d + b < 80 := by omega
      rw [if_pos ⟨d5, b16⟩] at hp
      refine nm_r (mu_r d 16 b) ⟨vp_in_nI hc (by decide), cd_if (xm_held hD.2.1 hc) (fun z => ?_) (fun z => cd_if Iff.rfl (fun y => ⟨vp_in_nI hc (by decide), ?_⟩) (fun y => cd_if Iff.rfl (fun x => ⟨vp_in_nI hc (by decide), ?_⟩) (fun x => ?_)))⟩
      · rw [if_pos z] at hp; exact hp
      · rw [if_neg z, if_pos y] at hp; rw [xm_stamp hD.2.2.1 hc z]; exact hp
      · rw [if_neg z, if_neg y, if_pos x] at hp; rw [nI_clamp (by omega), hD.2.2.2.1 _ hc]; exact hp
      · rw [if_neg z, if_neg y, if_neg x] at hp; exact hp
    · rw [if_neg (by omega)] at hp; exact hp
  · rw [if_neg (by omega)] at hp; exact hp
theorem ym_replica {nu : Nat → Bool} {st un : Nat → Nat} {ua : Nat → Int32} {v : SY} (hD : sy_D (nu, st, un, ua) v) (hbd : rd_bd (nu, st, un, ua)) {post : Int32 → Prop} {p q w : Int32} {d b : Nat} (hd : ix_c p 5 d) (hb : ix_c q 16 b) (hp : post (rd_rv st un d b w)) : wpY_replica post v p q w := by
  obtain ⟨f_active, f_epoch, a_nodeUp, a_journalUp, a_masterUp, a_touch, a_log, a_many, a_promise, a_base, a_stamp, a_units, a_unit, a_sort, a_placeOf, a_client, a_rowLength, a_row, a_closedWith, a_stampOf⟩ := v
  unfold wpY_replica
  unfold rd_rv at hp
  refine ym_in hd (by decide) rfl (fun d5 => br_f bo_1 ?_) (fun e => br_t rfl ?_)
  · refine ym_in hb (by decide) rfl (fun b16 => br_f bo_1 ?_) (fun e' => br_t rfl ?_)
    · have e := ix_i hd d5
      have e' := ix_i hb b16
      subst e e'
      have hc : 16 * d + b < 80 := by omega
      have hs := hbd.1 _ hc
      rw [if_pos ⟨d5, b16⟩] at hp
      have es : a_stamp (nI (16 * d + b)).toNatClampNeg = qt_m (st (16 * d + b)) := by rw [nI_clamp (by omega)]; exact hD.2.1 _ hc
      have eu : a_units (nI (16 * d + b)).toNatClampNeg = nI (un (16 * d + b)) := by rw [nI_clamp (by omega)]; exact hD.2.2.1 _ hc
      rw [show 16 * nI d + nI b = nI (16 * d + b) from mu_l d 16 b, es, eu]
      refine ⟨vp_in_nI hc (by decide), cd_if (qt_Nm (s := 0) (by omega) (by decide)) (fun z => cd_if Iff.rfl (fun y => ⟨vp_in_nI hc (by decide), ?_⟩) (fun y => cd_if Iff.rfl (fun x => ⟨vp_in_nI hc (by decide), ?_⟩) (fun x => ?_))) (fun z => ?_)⟩
      · rw [if_neg (by omega), if_pos y] at hp; exact hp
      · rw [if_neg (by omega), if_neg y, if_pos x] at hp; exact hp
      · rw [if_neg (by omega), if_neg y, if_neg x] at hp; exact hp
      · rw [if_pos (by omega)] at hp; exact hp
    · rw [if_neg (by omega)] at hp; exact hp
  · rw [if_neg (by omega)] at hp; exact hp
theorem i_vc_replica {k : Nat} {u : SX} {v : SY} (I : i_Rel k u v) (hk : k + 4 ≤ 2048) (v1 : Int32) (v2 : Int32) (v3 : Int32) : wpX_replica (fun r => wpY_replica (fun r' => r' = r ∧ i_Rel (k + 4) u v) v v1 v2 v3) u v1 v2 v3 := by
  have I' := i_up I
  obtain ⟨T, L, ⟨nu, st, un, ua⟩, h1, h2, h3, h4, h5, h6, h7, h8⟩ := I
  have hb := rl_bd h7 (by omega) h8
  obtain ⟨d, hd⟩ := ix_e v1 (N := 5) (by decide)
  obtain ⟨b, hb'⟩ := ix_e v2 (N := 16) (by decide)
  exact xm_replica h3 hd hb' (ym_replica h5 hb hd hb' ⟨rfl, I'⟩)
def lj_rv (r : qt_R) (w : Int32) : Int32 := if w = 0 then nI r.1 else if w = 1 then nI r.2.1 else if w = 2 then nI r.2.2.1 else if w = 3 then nI r.2.2.2.1 else if w = 4 then qt_m r.2.2.2.2 else -1
def lj_fv (n p t b w : Int32) : Int32 := if w = 0 then n else if w = 1 then p else if w = 2 then t else if w = 3 then b else -1
def lj_jv (to : Nat → Bool) (pr ba le : Nat → Nat) (lg : Nat → Nat → qt_R) (j : Nat) (k w : Int32) : Int32 :=
  if j < 3 then (if k = -1 then lj_fv (nI (le j)) (nI (pr j)) (bo_p (to j)) (nI (ba j)) w else if k < nI (ba j) then -1 else if k < nI (le j) then lj_rv (lg j k.toNatClampNeg) w else -1) else -1
theorem sw_n {w : Int32} {c : Nat} (h : w < 0) (hc : c < 2 ^ 31) : ¬ w = nI c := by
  intro z
  rw [z] at h
  exact nI_pos hc h
theorem sw_g {w : Int32} {c N : Nat} (h : nI N < w) (hc : c ≤ N) (hN : N < 2 ^ 31) : ¬ w = nI c := by
  intro z
  rw [z, nI_ltI hN (by omega)] at h
  omega
theorem xm_journalFact {mu ju : Nat → Bool} {ac ep : Nat} {to : Nat → Bool} {pr ba le : Nat → Nat} {lg : Nat → Nat → qt_R} {u : SX} (hL : sx_L (mu, ju, ac, ep, to, pr, ba, le, lg) u) {post : Int32 → Prop} {j : Nat} {w : Int32} (hj3 : j < 3) (hp : post (lj_fv (nI (le j)) (nI (pr j)) (bo_p (to j)) (nI (ba j)) w)) : wpX_journalFact post u (nI j) w := by
  obtain ⟨f_active, f_epoch, a_dataNodeDown, a_journalDown, a_masterDown, a_inTouch, a_promise, a_base, a_logLength, a_logEpoch, a_logKind, a_logA, a_logB, a_logC, a_inodeState, a_inodePlace, a_inodeClient, a_closeUnits, a_rowLength, a_rowBlock, a_blockStamp, a_replicaHeld, a_replicaStamp, a_unitCount, a_unitValue⟩ := u
  obtain ⟨l1, l2, l3, l4, l5, l6, l7, l8, l9⟩ := hL
  have hv := vp_in_nI hj3 (by decide : 3 < 2 ^ 31)
  have hc : (nI j).toNatClampNeg = j := nI_clamp (by omega)
  unfold lj_fv at hp
  rcases ix_s (N := 3) (by decide) w with z | ⟨z, z2⟩ | ⟨w, hw, rfl⟩
  · rw [if_neg (show ¬ w = 0 from sw_n (c := 0) z (by decide)), if_neg (show ¬ w = 1 from sw_n (c := 1) z (by decide)), if_neg (show ¬ w = 2 from sw_n (c := 2) z (by decide)), if_neg (show ¬ w = 3 from sw_n (c := 3) z (by decide))] at hp
    exact br_t z hp
  · rw [if_neg (show ¬ w = 0 from sw_g (c := 0) z2 (by decide) (by decide)), if_neg (show ¬ w = 1 from sw_g (c := 1) z2 (by decide) (by decide)), if_neg (show ¬ w = 2 from sw_g (c := 2) z2 (by decide) (by decide)), if_neg (show ¬ w = 3 from sw_g (c := 3) z2 (by decide) (by decide))] at hp
    exact br_f z (br_t z2 hp)
  · match w, hw with
    | 0, _ =>
      rw [if_pos (by decide), ← l8 j hj3, ← hc] at hp
      exact br_f (by decide) (br_f (by decide) (br_t rfl ⟨hv, hp⟩))
    | 1, _ =>
      rw [if_neg (by decide), if_pos (by decide), ← l6 j hj3, ← hc] at hp
      exact br_f (by decide) (br_f (by decide) (br_f (by decide) (br_t rfl ⟨hv, hp⟩)))
    | 2, _ =>
      rw [if_neg (by decide), if_neg (by decide), if_pos (by decide)] at hp
      refine br_f (by decide) (br_f (by decide) (br_f (by decide) (br_f (by decide) (br_t rfl ⟨hv, cd_if (cd_p (l5 j hj3) (by omega)) (fun y => ?_) (fun y => ?_)⟩))))
      · rw [y] at hp; exact hp
      · rw [show to j = true by simpa using y] at hp; exact hp
    | 3, _ =>
      rw [if_neg (by decide), if_neg (by decide), if_neg (by decide), if_pos (by decide), ← l7 j hj3, ← hc] at hp
      exact br_f (by decide) (br_f (by decide) (br_f (by decide) (br_f (by decide) (br_f (by decide) (br_t rfl ⟨hv, hp⟩)))))
theorem xm_recordFact {mu ju : Nat → Bool} {ac ep : Nat} {to : Nat → Bool} {pr ba le : Nat → Nat} {lg : Nat → Nat → qt_R} {u : SX} (hL : sx_L (mu, ju, ac, ep, to, pr, ba, le, lg) u) {post : Int32 → Prop} {j k : Nat} {w : Int32} (hj3 : j < 3) (hk : k < le j) (hl : le j ≤ 1000) (hp : post (lj_rv (lg j k) w)) : wpX_recordFact post u (nI (1000 * j + k)) w := by
  obtain ⟨f_active, f_epoch, a_dataNodeDown, a_journalDown, a_masterDown, a_inTouch, a_promise, a_base, a_logLength, a_logEpoch, a_logKind, a_logA, a_logB, a_logC, a_inodeState, a_inodePlace, a_inodeClient, a_closeUnits, a_rowLength, a_rowBlock, a_blockStamp, a_replicaHeld, a_replicaStamp, a_unitCount, a_unitValue⟩ := u
  obtain ⟨l1, l2, l3, l4, l5, l6, l7, l8, l9⟩ := hL
  obtain ⟨c1, c2, c3, c4, c5⟩ := l9 j k hj3 hk
  have hv := vp_in_nI (show 1000 * j + k < 3000 by omega) (by decide : 3000 < 2 ^ 31)
  have hc : (nI (1000 * j + k)).toNatClampNeg = 1000 * j + k := nI_clamp (by omega)
  unfold lj_rv at hp
  rcases ix_s (N := 4) (by decide) w with z | ⟨z, z2⟩ | ⟨w, hw, rfl⟩
  · rw [if_neg (show ¬ w = 0 from sw_n (c := 0) z (by decide)), if_neg (show ¬ w = 1 from sw_n (c := 1) z (by decide)), if_neg (show ¬ w = 2 from sw_n (c := 2) z (by decide)), if_neg (show ¬ w = 3 from sw_n (c := 3) z (by decide)), if_neg (show ¬ w = 4 from sw_n (c := 4) z (by decide))] at hp
    exact br_t z hp
  · rw [if_neg (show ¬ w = 0 from sw_g (c := 0) z2 (by decide) (by decide)), if_neg (show ¬ w = 1 from sw_g (c := 1) z2 (by decide) (by decide)), if_neg (show ¬ w = 2 from sw_g (c := 2) z2 (by decide) (by decide)), if_neg (show ¬ w = 3 from sw_g (c := 3) z2 (by decide) (by decide)), if_neg (show ¬ w = 4 from sw_g (c := 4) z2 (by decide) (by decide))] at hp
    exact br_f z (br_t z2 hp)
  · match w, hw with
    | 0, _ =>
      rw [if_pos (by decide), ← c1, ← hc] at hp
      exact br_f (by decide) (br_f (by decide) (br_t rfl ⟨hv, hp⟩))
    | 1, _ =>
      rw [if_neg (by decide), if_pos (by decide), ← c2, ← hc] at hp
      exact br_f (by decide) (br_f (by decide) (br_f (by decide) (br_t rfl ⟨hv, hp⟩)))
    | 2, _ =>
      rw [if_neg (by decide), if_neg (by decide), if_pos (by decide), ← c3, ← hc] at hp
      exact br_f (by decide) (br_f (by decide) (br_f (by decide) (br_f (by decide) (br_t rfl ⟨hv, hp⟩))))
    | 3, _ =>
      rw [if_neg (by decide), if_neg (by decide), if_neg (by decide), if_pos (by decide), ← c4, ← hc] at hp
      exact br_f (by decide) (br_f (by decide) (br_f (by decide) (br_f (by decide) (br_f (by decide) (br_t rfl ⟨hv, hp⟩)))))
    | 4, _ =>
      rw [if_neg (by decide), if_neg (by decide), if_neg (by decide), if_neg (by decide), if_pos (by decide), ← c5, ← hc] at hp
      exact br_f (by decide) (br_f (by decide) (br_f (by decide) (br_f (by decide) (br_f (by decide) (br_f (by decide) (br_t rfl ⟨hv, hp⟩))))))
theorem xm_journal {mu ju : Nat → Bool} {ac ep : Nat} {to : Nat → Bool} {pr ba le : Nat → Nat} {lg : Nat → Nat → qt_R} {u : SX} (hL : sx_L (mu, ju, ac, ep, to, pr, ba, le, lg) u) (hl : ∀ j, j < 3 → ba j ≤ le j ∧ le j ≤ 1000) {post : Int32 → Prop} {j : Nat} {p k w : Int32} (hj : ix_c p 3 j) (hp : post (lj_jv to pr ba le lg j k w)) : wpX_journal post u p k w := by
  obtain ⟨f_active, f_epoch, a_dataNodeDown, a_journalDown, a_masterDown, a_inTouch, a_promise, a_base, a_logLength, a_logEpoch, a_logKind, a_logA, a_logB, a_logC, a_inodeState, a_inodePlace, a_inodeClient, a_closeUnits, a_rowLength, a_rowBlock, a_blockStamp, a_replicaHeld, a_replicaStamp, a_unitCount, a_unitValue⟩ := u
  unfold lj_jv at hp
  refine ix_t2 hj rfl (by decide) (fun hj3 e => ?_) (fun e => ?_)
  · subst e
    rw [if_pos hj3] at hp
    obtain ⟨b1, b2⟩ := hl j hj3
    have hv := vp_in_nI hj3 (by decide : 3 < 2 ^ 31)
    have hc : (nI j).toNatClampNeg = j := nI_clamp (by omega)
    have eb : a_base (nI j).toNatClampNeg = nI (ba j) := by rw [hc]; exact hL.2.2.2.2.2.2.1 j hj3
    have el : a_logLength (nI j).toNatClampNeg = nI (le j) := by rw [hc]; exact hL.2.2.2.2.2.2.2.1 j hj3
    refine cd_if Iff.rfl (fun h => ?_) (fun h => ⟨hv, ?_⟩)
    · rw [if_pos h] at hp
      exact xm_journalFact (u := (f_active, f_epoch, a_dataNodeDown, a_journalDown, a_masterDown, a_inTouch, a_promise, a_base, a_logLength, a_logEpoch, a_logKind, a_logA, a_logB, a_logC, a_inodeState, a_inodePlace, a_inodeClient, a_closeUnits, a_rowLength, a_rowBlock, a_blockStamp, a_replicaHeld, a_replicaStamp, a_unitCount, a_unitValue)) hL hj3 hp
    · rw [if_neg h] at hp
      rw [eb, el]
      refine cd_if Iff.rfl (fun z => ?_) (fun z => ⟨hv, cd_if Iff.rfl (fun y => ?_) (fun y => ?_)⟩)
      · rw [if_pos z] at hp; exact hp
      · rw [if_neg z, if_pos y] at hp
        have hk0 : ¬ k < 0 := fun x => z (Int32.lt_of_lt_of_le x (nI_pos' (by omega)))
        obtain ⟨K, hK, rfl⟩ := nI_of hk0
        have hKl : K < le j := (nI_ltI (by omega) (by omega)).mp y
        rw [nI_clamp hK] at hp
        rw [show nI j * 1000 + nI K = nI (1000 * j + K) from mu_r j 1000 K]
        exact xm_recordFact (u := (f_active, f_epoch, a_dataNodeDown, a_journalDown, a_masterDown, a_inTouch, a_promise, a_base, a_logLength, a_logEpoch, a_logKind, a_logA, a_logB, a_logC, a_inodeState, a_inodePlace, a_inodeClient, a_closeUnits, a_rowLength, a_rowBlock, a_blockStamp, a_replicaHeld, a_replicaStamp, a_unitCount, a_unitValue)) hL hj3 hKl b2 hp
      · rw [if_neg z, if_neg y] at hp; exact hp
  · rw [if_neg (by omega)] at hp; exact hp
theorem ym_journal {mu ju : Nat → Bool} {ac ep : Nat} {to : Nat → Bool} {pr ba le : Nat → Nat} {lg : Nat → Nat → qt_R} {v : SY} (hL : sy_L (mu, ju, ac, ep, to, pr, ba, le, lg) v) (hl : ∀ j, j < 3 → qt_wf (lg j) (le j) ∧ le j ≤ 1000 ∧ ba j ≤ le j) {post : Int32 → Prop} {j : Nat} {p k w : Int32} (hj : ix_c p 3 j) (hp : post (lj_jv to pr ba le lg j k w)) : wpY_journal post v p k w := by
  obtain ⟨f_active, f_epoch, a_nodeUp, a_journalUp, a_masterUp, a_touch, a_log, a_many, a_promise, a_base, a_stamp, a_units, a_unit, a_sort, a_placeOf, a_client, a_rowLength, a_row, a_closedWith, a_stampOf⟩ := v
  unfold wpY_journal
  unfold lj_jv at hp
  obtain ⟨l1, l2, l3, l4, l5, l6, l7, l8, l9⟩ := hL
  refine ym_in hj (by decide) rfl (fun hj3 => br_f bo_1 ?_) (fun e => br_t rfl ?_)
  · have e := ix_i hj hj3
    subst e
    rw [if_pos hj3] at hp
    obtain ⟨hw, b2, b1⟩ := hl j hj3
    have hv := vp_in_nI hj3 (by decide : 3 < 2 ^ 31)
    have hc : (nI j).toNatClampNeg = j := nI_clamp (by omega)
    have eb : a_base (nI j).toNatClampNeg = nI (ba j) := by rw [hc]; exact l7 j hj3
    have el : a_many (nI j).toNatClampNeg = nI (le j) := by rw [hc]; exact l8 j hj3
    refine cd_if Iff.rfl (fun h => ?_) (fun h => ⟨hv, ?_⟩)
    · rw [if_pos h] at hp
      unfold lj_fv at hp
      rw [eb, el, hc, l6 j hj3]
      refine cd_if Iff.rfl (fun z0 => ⟨hv, ?_⟩) (fun z0 => cd_if Iff.rfl (fun z1 => ⟨hv, ?_⟩) (fun z1 => cd_if Iff.rfl (fun z2 => ⟨hv, ?_⟩) (fun z2 => cd_if Iff.rfl (fun z3 => ⟨hv, ?_⟩) (fun z3 => ?_))))
      · rw [if_pos z0] at hp; exact hp
      · rw [if_neg z0, if_pos z1] at hp; exact hp
      · rw [if_neg z0, if_neg z1, if_pos z2] at hp
        rw [l5 j hj3]
        refine cd_if bo_p0 (fun y => ?_) (fun y => ?_)
        · rw [y] at hp; exact hp
        · rw [show to j = true by simpa using y] at hp; exact hp
      · rw [if_neg z0, if_neg z1, if_neg z2, if_pos z3] at hp; exact hp
      · rw [if_neg z0, if_neg z1, if_neg z2, if_neg z3] at hp; exact hp
    · rw [if_neg h] at hp
      rw [eb, el]
      refine cd_if Iff.rfl (fun z => ?_) (fun z => ⟨hv, cd_if Iff.rfl (fun y => ?_) (fun y => ?_)⟩)
      · rw [if_pos z] at hp; exact hp
      · rw [if_neg z, if_pos y] at hp
        have hk0 : ¬ k < 0 := fun x => z (Int32.lt_of_lt_of_le x (nI_pos' (by omega)))
        obtain ⟨K, hK, rfl⟩ := nI_of hk0
        have hKl : K < le j := (nI_ltI (by omega) (by omega)).mp y
        rw [nI_clamp hK] at hp
        have hB := qt_okB (hw K hKl)
        rw [show 1001 * nI j + nI K = nI (1001 * j + K) from mu_l j 1001 K]
        refine ⟨vp_in_nI (by omega) (by decide), nm_r (e' := lN (qt_pk (lg j K))) (by rw [nI_clamp (by omega)]; exact l9 j K hj3 hKl) ?_⟩
        rw [qt_pkE hB, qt_pkK hB, qt_pkA hB, qt_pkB hB, qt_pkC hB]
        unfold lj_rv at hp
        rcases ix_s (N := 4) (by decide) w with z | ⟨z, z2⟩ | ⟨w, hw, rfl⟩
        · rw [if_neg (show ¬ w = 0 from sw_n (c := 0) z (by decide)), if_neg (show ¬ w = 1 from sw_n (c := 1) z (by decide)), if_neg (show ¬ w = 2 from sw_n (c := 2) z (by decide)), if_neg (show ¬ w = 3 from sw_n (c := 3) z (by decide)), if_neg (show ¬ w = 4 from sw_n (c := 4) z (by decide))] at hp
          exact br_t z hp
        · rw [if_neg (show ¬ w = 0 from sw_g (c := 0) z2 (by decide) (by decide)), if_neg (show ¬ w = 1 from sw_g (c := 1) z2 (by decide) (by decide)), if_neg (show ¬ w = 2 from sw_g (c := 2) z2 (by decide) (by decide)), if_neg (show ¬ w = 3 from sw_g (c := 3) z2 (by decide) (by decide)), if_neg (show ¬ w = 4 from sw_g (c := 4) z2 (by decide) (by decide))] at hp
          exact br_f z (br_t z2 hp)
        · match w, hw with
          | 0, _ =>
            rw [if_pos (by decide)] at hp
            exact br_f (by decide) (br_f (by decide) (br_t rfl hp))
          | 1, _ =>
            rw [if_neg (by decide), if_pos (by decide)] at hp
            exact br_f (by decide) (br_f (by decide) (br_f (by decide) (br_t rfl hp)))
          | 2, _ =>
            rw [if_neg (by decide), if_neg (by decide), if_pos (by decide)] at hp
            exact br_f (by decide) (br_f (by decide) (br_f (by decide) (br_f (by decide) (br_t rfl hp))))
          | 3, _ =>
            rw [if_neg (by decide), if_neg (by decide), if_neg (by decide), if_pos (by decide)] at hp
            exact br_f (by decide) (br_f (by decide) (br_f (by decide) (br_f (by decide) (br_f (by decide) (br_t rfl hp)))))
          | 4, _ =>
            rw [if_neg (by decide), if_neg (by decide), if_neg (by decide), if_neg (by decide), if_pos (by decide)] at hp
            exact br_f (by decide) (br_f (by decide) (br_f (by decide) (br_f (by decide) (br_f (by decide) (br_f (by decide) (br_t rfl hp))))))
      · rw [if_neg z, if_neg y] at hp; exact hp
  · rw [if_neg (by omega)] at hp; exact hp
theorem i_vc_journal {k : Nat} {u : SX} {v : SY} (I : i_Rel k u v) (hk : k + 4 ≤ 2048) (v1 : Int32) (v2 : Int32) (v3 : Int32) : wpX_journal (fun r => wpY_journal (fun r' => r' = r ∧ i_Rel (k + 4) u v) v v1 v2 v3) u v1 v2 v3 := by
  have I' := i_up I
  obtain ⟨T, ⟨mu, ju, ac, ep, to, pr, ba, le, lg⟩, D, h1, h2, h3, h4, h5, h6, h7, h8⟩ := I
  obtain ⟨j, hj⟩ := ix_e v1 (N := 3) (by decide)
  have i5 := h7.2.2.2.2.1
  exact xm_journal h2 (fun j hj => ⟨(i5 j hj).2.1, (i5 j hj).2.2.2⟩) hj (ym_journal h4 (fun j hj => ⟨(i5 j hj).1, (i5 j hj).2.2.2, (i5 j hj).2.1⟩) hj ⟨rfl, I'⟩)
