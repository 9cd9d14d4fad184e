/-! replica, journal, status -/
theorem ix_s {N : Nat} (hN : N < 2 ^ 31) (x : Int32) : x < 0 ∨ (¬ x < 0 ∧ nI N < x) ∨ ∃ j, j ≤ N ∧ x = nI j := by
  by_cases h : x < 0
  · exact Or.inl h
  · obtain ⟨j, hj, rfl⟩ := nI_of h
    by_cases h2 : j ≤ N
    · exact Or.inr (Or.inr ⟨j, h2, rfl⟩)
    · exact Or.inr (Or.inl ⟨h, nI_lt (by omega) hj⟩)
theorem ix_t2 {x y : Int32} {N n : Nat} {A B : Prop} (h : ix_c x N n) (hy : y = nI N) (hN : N < 2 ^ 31) (a : n < N → x = nI n → A) (b : n = N → B) : (x < 0 → B) ∧ (¬ x < 0 → (x < y → A) ∧ (¬ x < y → B)) := by
  subst hy
  rcases h with ⟨h1, rfl⟩ | ⟨rfl, h | ⟨h, h'⟩⟩
  · refine ⟨fun z => absurd z (nI_pos (by omega)), fun _ => ⟨fun _ => a h1 rfl, fun z => absurd (nI_lt h1 hN) z⟩⟩
  · exact ⟨fun _ => b rfl, fun z => absurd h z⟩
  · exact ⟨fun z => absurd z h', fun _ => ⟨fun z => absurd z (Int32.not_lt.mpr h), fun _ => b rfl⟩⟩
theorem rl_ep {k : Nat} {L : lj_L} {T : qt_T} (h : lj_iv k L T) (hk : k ≤ 2048) : lj_ep L ≤ 512 := by
  obtain ⟨mu, ju, ac, ep, to, pr, ba, le, lg⟩ := L
  have := h.1
  show ep ≤ 512
  omega
theorem rl_len {k : Nat} {L : lj_L} {T : qt_T} (h : lj_iv k L T) : lj_len L ≤ 1000 := by
  obtain ⟨mu, ju, ac, ep, to, pr, ba, le, lg⟩ := L
  exact (h.2.2.2.2.1 _ (lj_srcL to)).2.2.2
theorem rl_bd {k : Nat} {L : lj_L} {T : qt_T} {D : rd_D} (h : lj_iv k L T) (hk : k ≤ 2048) (hD : rd_iv L D) : rd_bd D := by
  obtain ⟨nu, st, un, ua⟩ := D
  have h1 := rl_ep h hk
  have h2 := rl_len h
  refine ⟨fun c hc => ?_, hD.2⟩
  have := hD.1 c hc
  split at this <;> omega
def rd_rv (st un : Nat → Nat) (d b : Nat) (w : Int32) : Int32 := if d < 5 ∧ b < 16 then (if st (16 * d + b) = 0 then -1 else if w = 0 then qt_m (st (16 * d + b)) else if w = 1 then nI (un (16 * d + b)) else -1) else -1
theorem xm_replica {nu : Nat → Bool} {st un : Nat → Nat} {ua : Nat → Int32} {u : SX} (hD : sx_D (nu, st, un, ua) u) {post : Int32 → Prop} {p q w : Int32} {d b : Nat} (hd : ix_c p 5 d) (hb : ix_c q 16 b) (hp : post (rd_rv st un d b w)) : wpX_replica post u p q w := by
  obtain ⟨f_active, f_epoch, a_dataNodeDown, a_journalDown, a_masterDown, a_inTouch, a_promise, a_base, a_logLength, a_logEpoch, a_logKind, a_logA, a_logB, a_logC, a_inodeState, a_inodePlace, a_inodeClient, a_closeUnits, a_rowLength, a_rowBlock, a_blockStamp, a_replicaHeld, a_replicaStamp, a_unitCount, a_unitValue⟩ := u
  unfold rd_rv at hp
  refine ix_t hd rfl (by decide) (fun d5 e => ?_) (fun e => ?_)
  · refine ix_t2 hb rfl (by decide) (fun b16 e' => ?_) (fun e' => ?_)
    · subst e e'
      have hc : 16 * d + b < 80 := by omega
      rw [if_pos ⟨d5, b16⟩] at hp
      refine nm_r (mu_r d 16 b) ⟨vp_in_nI hc (by decide), cd_if (xm_held hD.2.1 hc) (fun z => ?_) (fun z => cd_if Iff.rfl (fun y => ⟨vp_in_nI hc (by decide), ?_⟩) (fun y => cd_if Iff.rfl (fun x => ⟨vp_in_nI hc (by decide), ?_⟩) (fun x => ?_)))⟩
      · rw [if_pos z] at hp; exact hp
      · rw [if_neg z, if_pos y] at hp; rw [xm_stamp hD.2.2.1 hc z]; exact hp
      · rw [if_neg z, if_neg y, if_pos x] at hp; rw [nI_clamp (by omega), hD.2.2.2.1 _ hc]; exact hp
      · rw [if_neg z, if_neg y, if_neg x] at hp; exact hp
    · rw [if_neg (by omega)] at hp; exact hp
  · rw [if_neg (by omega)] at hp; exact hp
theorem ym_replica {nu : Nat → Bool} {st un : Nat → Nat} {ua : Nat → Int32} {v : SY} (hD : sy_D (nu, st, un, ua) v) (hbd : rd_bd (nu, st, un, ua)) {post : Int32 → Prop} {p q w : Int32} {d b : Nat} (hd : ix_c p 5 d) (hb : ix_c q 16 b) (hp : post (rd_rv st un d b w)) : wpY_replica post v p q w := by
  obtain ⟨f_active, f_epoch, a_nodeUp, a_journalUp, a_masterUp, a_touch, a_log, a_many, a_promise, a_base, a_stamp, a_units, a_unit, a_sort, a_placeOf, a_client, a_rowLength, a_row, a_closedWith, a_stampOf⟩ := v
  unfold rd_rv at hp
  refine ym_in hd (by decide) rfl (fun d5 => br_f bo_1 ?_) (fun e => br_t rfl ?_)
  · refine ym_in hb (by decide) rfl (fun b16 => br_f bo_1 ?_) (fun e' => br_t rfl ?_)
    · have e := ix_i hd d5
      have e' := ix_i hb b16
      subst e e'
      have hc : 16 * d + b < 80 := by omega
      have hs := hbd.1 _ hc
      rw [if_pos ⟨d5, b16⟩] at hp
      have es : a_stamp (nI (16 * d + b)).toNatClampNeg = qt_m (st (16 * d + b)) := by rw [nI_clamp (by omega)]; exact hD.2.1 _ hc
      have eu : a_units (nI (16 * d + b)).toNatClampNeg = nI (un (16 * d + b)) := by rw [nI_clamp (by omega)]; exact hD.2.2.1 _ hc
      rw [show 16 * nI d + nI b = nI (16 * d + b) from mu_l d 16 b, es, eu]
      refine ⟨vp_in_nI hc (by decide), cd_if (qt_Nm (s := 0) (by omega) (by decide)) (fun z => cd_if Iff.rfl (fun y => ⟨vp_in_nI hc (by decide), ?_⟩) (fun y => cd_if Iff.rfl (fun x => ⟨vp_in_nI hc (by decide), ?_⟩) (fun x => ?_))) (fun z => ?_)⟩
      · rw [if_neg (by omega), if_pos y] at hp; exact hp
      · rw [if_neg (by omega), if_neg y, if_pos x] at hp; exact hp
      · rw [if_neg (by omega), if_neg y, if_neg x] at hp; exact hp
      · rw [if_pos (by omega)] at hp; exact hp
    · rw [if_neg (by omega)] at hp; exact hp
  · rw [if_neg (by omega)] at hp; exact hp
theorem i_vc_replica {k : Nat} {u : SX} {v : SY} (I : i_Rel k u v) (hk : k + 4 ≤ 2048) (v1 : Int32) (v2 : Int32) (v3 : Int32) : wpX_replica (fun r => wpY_replica (fun r' => r' = r ∧ i_Rel (k + 4) u v) v v1 v2 v3) u v1 v2 v3 := by
  have I' := i_up I
  obtain ⟨T, L, ⟨nu, st, un, ua⟩, h1, h2, h3, h4, h5, h6, h7, h8⟩ := I
  have hb := rl_bd h7 (by omega) h8
  obtain ⟨d, hd⟩ := ix_e v1 (N := 5) (by decide)
  obtain ⟨b, hb'⟩ := ix_e v2 (N := 16) (by decide)
  exact xm_replica h3 hd hb' (ym_replica h5 hb hd hb' ⟨rfl, I'⟩)
theorem i_vc_journal {k : Nat} {u : SX} {v : SY} (I : i_Rel k u v) (hk : k + 4 ≤ 2048) (v1 : Int32) (v2 : Int32) (v3 : Int32) : wpX_journal (fun r => wpY_journal (fun r' => r' = r ∧ i_Rel (k + 4) u v) v v1 v2 v3) u v1 v2 v3 := by
  have I' := i_up I
  obtain ⟨T, ⟨mu, ju, ac, ep, to, pr, ba, le, lg⟩, D, h1, h2, h3, h4, h5, h6, h7, h8⟩ := I
  obtain ⟨j, hj⟩ := ix_e v1 (N := 3) (by decide)
  generalize i_Rel (k + 4) u v = Q at I'
  obtain ⟨f_active, f_epoch, a_dataNodeDown, a_journalDown, a_masterDown, a_inTouch, a_promise, a_base, a_logLength, a_logEpoch, a_logKind, a_logA, a_logB, a_logC, a_inodeState, a_inodePlace, a_inodeClient, a_closeUnits, a_rowLength, a_rowBlock, a_blockStamp, a_replicaHeld, a_replicaStamp, a_unitCount, a_unitValue⟩ := u
  obtain ⟨g_active, g_epoch, a_nodeUp, a_journalUp, a_masterUp, a_touch, a_log, a_many, b_promise, b_base, a_stamp, a_units, a_unit, a_sort, a_placeOf, a_client, b_rowLength, a_row, a_closedWith, a_stampOf⟩ := v
  obtain ⟨l1, l2, l3, l4, l5, l6, l7, l8, l9⟩ := h2
  obtain ⟨m1, m2, m3, m4, m5, m6, m7, m8, m9⟩ := h4
  have i5 := h7.2.2.2.2.1
  by_cases hj3 : j < 3
  · have e := ix_i hj hj3
    subst e
    have hv := vp_in_nI hj3 (by decide : 3 < 2 ^ 31)
    have hc : (nI j).toNatClampNeg = j := nI_clamp (by omega)
    obtain ⟨w, b1, b2, b3⟩ := i5 j hj3
    have Y : ∀ {r : Int32} {P : Prop}, P → ((nI j < 0 → P) ∧ (¬ nI j < 0 → P)) := fun p => ⟨fun _ => p, fun _ => p⟩
    refine ix_t2 hj rfl (by decide) (fun _ _ => ?_) (fun e => by omega)
    refine cd_if Iff.rfl (fun h => ?_) (fun h => ⟨hv, ?_⟩)
    · subst h
      rcases ix_s (N := 3) (by decide) v3 with z | ⟨z, z2⟩ | ⟨w, hw, rfl⟩
      · refine br_t z (ym_in hj (by decide) rfl (fun _ => br_f bo_1 (br_t rfl (br_f ?_ (br_f ?_ (br_f ?_ (br_f ?_ ⟨rfl, I'⟩)))))) (fun e => by omega)) <;> (intro y; subst y; exact absurd z (by decide))
      · refine br_f z (br_t z2 (ym_in hj (by decide) rfl (fun _ => br_f bo_1 (br_t rfl (br_f ?_ (br_f ?_ (br_f ?_ (br_f ?_ ⟨rfl, I'⟩)))))) (fun e => by omega))) <;> (intro y; subst y; exact absurd z2 (by decide))
      · have Y : ∀ {P : Prop}, P → wpY_in (fun r => ((r = 0 → False) ∧ (¬ r = 0 → P))) (nI j) 3 := fun p => ym_in hj (by decide) rfl (fun _ => ⟨fun z => absurd z bo_1, fun _ => p⟩) (fun e => by omega)
        match w, hw with
        | 0, _ => exact br_f (by decide) (br_f (by decide) (br_t rfl ⟨hv, ym_in hj (by decide) rfl (fun _ => br_f bo_1 (br_t rfl (br_t rfl ⟨hv, by rw [hc, l8 j hj3, m8 j hj3], I'⟩))) (fun e => by omega)⟩))
        | 1, _ => exact br_f (by decide) (br_f (by decide) (br_f (by decide) (br_t rfl ⟨hv, ym_in hj (by decide) rfl (fun _ => br_f bo_1 (br_t rfl (br_f (by decide) (br_t rfl ⟨hv, by rw [hc, l6 j hj3, m6 j hj3], I'⟩)))) (fun e => by omega)⟩)))
        | 2, _ => exact br_f (by decide) (br_f (by decide) (br_f (by decide) (br_f (by decide) (br_t rfl ⟨hv, cd_if (cd_p (l5 j hj3) (by omega)) (fun z => ym_in hj (by decide) rfl (fun _ => br_f bo_1 (br_t rfl (br_f (by decide) (br_f (by decide) (br_t rfl ⟨hv, br_t ((cd_p (m5 j hj3) (by omega)).mpr z) ⟨rfl, I'⟩⟩))))) (fun e => by omega)) (fun z => ym_in hj (by decide) rfl (fun _ => br_f bo_1 (br_t rfl (br_f (by decide) (br_f (by decide) (br_t rfl ⟨hv, br_f ((not_congr (cd_p (m5 j hj3) (by omega))).mpr z) ⟨rfl, I'⟩⟩))))) (fun e => by omega))⟩))))
        | 3, _ => exact br_f (by decide) (br_f (by decide) (br_f (by decide) (br_f (by decide) (br_f (by decide) (br_t rfl ⟨hv, ym_in hj (by decide) rfl (fun _ => br_f bo_1 (br_t rfl (br_f (by decide) (br_f (by decide) (br_f (by decide) (br_t rfl ⟨hv, by rw [hc, l7 j hj3, m7 j hj3], I'⟩)))))) (fun e => by omega)⟩)))))
    · have eb : a_base (nI j).toNatClampNeg = nI (ba j) := by rw [hc]; exact l7 j hj3
      have eb' : b_base (nI j).toNatClampNeg = nI (ba j) := by rw [hc]; exact m7 j hj3
      have el : a_logLength (nI j).toNatClampNeg = nI (le j) := by rw [hc]; exact l8 j hj3
      have el' : a_many (nI j).toNatClampNeg = nI (le j) := by rw [hc]; exact m8 j hj3
      rw [eb, el]
      have YY : ∀ {r : Int32}, ((v2 < nI (ba j) → (-1 : Int32) = r ∧ Q) ∧ (¬ v2 < nI (ba j) → (vp_in (nI j) 3 ∧ ((v2 < nI (le j) → (vp_in (1001 * nI j + v2) 3003 ∧ ∀ x, x = a_log (1001 * nI j + v2).toNatClampNeg → ((v3 < 0 → (-1 : Int32) = r ∧ Q) ∧ (¬ v3 < 0 → ((4 < v3 → (-1 : Int32) = r ∧ Q) ∧ (¬ 4 < v3 → ((v3 = 0 → (x >>> ((20 : Int32).toInt64 &&& 63)).toInt32 = r ∧ Q) ∧ (¬ v3 = 0 → ((v3 = 1 → x.toInt32 &&& 7 = r ∧ Q) ∧ (¬ v3 = 1 → ((v3 = 2 → (x >>> ((3 : Int32).toInt64 &&& 63)).toInt32 &&& 31 = r ∧ Q) ∧ (¬ v3 = 2 → ((v3 = 3 → (x >>> ((8 : Int32).toInt64 &&& 63)).toInt32 &&& 255 = r ∧ Q) ∧ (¬ v3 = 3 → ((v3 = 4 → ((x >>> ((16 : Int32).toInt64 &&& 63)).toInt32 &&& 15) - 1 = r ∧ Q) ∧ (¬ v3 = 4 → True))))))))))))))) ∧ (¬ v2 < nI (le j) → (-1 : Int32) = r ∧ Q))))) → wpY_journal (fun r' => r' = r ∧ Q) (g_active, g_epoch, a_nodeUp, a_journalUp, a_masterUp, a_touch, a_log, a_many, b_promise, b_base, a_stamp, a_units, a_unit, a_sort, a_placeOf, a_client, b_rowLength, a_row, a_closedWith, a_stampOf) (nI j) v2 v3 := by
        intro r hh
        refine ym_in hj (by decide) rfl (fun _ => br_f bo_1 (br_f h ⟨hv, ?_⟩)) (fun e => by omega)
        rw [eb', el']
        exact hh
      refine cd_if Iff.rfl (fun z => YY (br_t z ⟨rfl, I'⟩)) (fun z => ⟨hv, cd_if Iff.rfl (fun y => ?_) (fun y => YY (br_f z ⟨hv, br_f y ⟨rfl, I'⟩⟩))⟩)
      have hv20 : ¬ v2 < 0 := fun x => z (Int32.lt_of_lt_of_le x (nI_pos' (by omega)))
      obtain ⟨K, hK, rfl⟩ := nI_of hv20
      have hKl : K < le j := (nI_ltI (by omega) (by omega)).mp y
      have hcell : 1000 * j + K < 3000 := by omega
      have hcc : (nI (1000 * j + K)).toNatClampNeg = 1000 * j + K := nI_clamp (by omega)
      have hvc := vp_in_nI hcell (by decide)
      have eG : a_log (1001 * nI j + nI K).toNatClampNeg = lN (qt_pk (lg j K)) := by
        rw [show 1001 * nI j + nI K = nI (1001 * j + K) from mu_l j 1001 K, nI_clamp (by omega)]
        exact m9 j K hj3 hKl
      have hvl : vp_in (1001 * nI j + nI K) 3003 := by
        rw [show 1001 * nI j + nI K = nI (1001 * j + K) from mu_l j 1001 K]
        exact vp_in_nI (by omega) (by decide)
      have hB := qt_okB (w K hKl)
      obtain ⟨c1, c2, c3, c4, c5⟩ := l9 j K hj3 hKl
      rw [show nI j * 1000 + nI K = nI (1000 * j + K) from mu_r j 1000 K]
      rcases ix_s (N := 4) (by decide) v3 with x | ⟨x, x2⟩ | ⟨w, hw, rfl⟩
      · exact br_t x (YY (br_f z ⟨hv, br_t y ⟨hvl, nm_e (br_t x ⟨rfl, I'⟩)⟩⟩))
      · exact br_f x (br_t x2 (YY (br_f z ⟨hv, br_t y ⟨hvl, nm_e (br_f x (br_t x2 ⟨rfl, I'⟩))⟩⟩)))
      · match w, hw with
        | 0, _ => exact br_f (by decide) (br_f (by decide) (br_t rfl ⟨hvc, YY (br_f z ⟨hv, br_t y ⟨hvl, nm_r eG (br_f (by decide) (br_f (by decide) (br_t rfl ⟨by rw [hcc, c1]; exact qt_pkE hB, I'⟩)))⟩⟩)⟩))
        | 1, _ => exact br_f (by decide) (br_f (by decide) (br_f (by decide) (br_t rfl ⟨hvc, YY (br_f z ⟨hv, br_t y ⟨hvl, nm_r eG (br_f (by decide) (br_f (by decide) (br_f (by decide) (br_t rfl ⟨by rw [hcc, c2]; exact qt_pkK hB, I'⟩))))⟩⟩)⟩)))
        | 2, _ => exact br_f (by decide) (br_f (by decide) (br_f (by decide) (br_f (by decide) (br_t rfl ⟨hvc, YY (br_f z ⟨hv, br_t y ⟨hvl, nm_r eG (br_f (by decide) (br_f (by decide) (br_f (by decide) (br_f (by decide) (br_t rfl ⟨by rw [hcc, c3]; exact qt_pkA hB, I'⟩)))))⟩⟩)⟩))))
        | 3, _ => exact br_f (by decide) (br_f (by decide) (br_f (by decide) (br_f (by decide) (br_f (by decide) (br_t rfl ⟨hvc, YY (br_f z ⟨hv, br_t y ⟨hvl, nm_r eG (br_f (by decide) (br_f (by decide) (br_f (by decide) (br_f (by decide) (br_f (by decide) (br_t rfl ⟨by rw [hcc, c4]; exact qt_pkB hB, I'⟩))))))⟩⟩)⟩)))))
        | 4, _ => exact br_f (by decide) (br_f (by decide) (br_f (by decide) (br_f (by decide) (br_f (by decide) (br_f (by decide) (br_t rfl ⟨hvc, YY (br_f z ⟨hv, br_t y ⟨hvl, nm_r eG (br_f (by decide) (br_f (by decide) (br_f (by decide) (br_f (by decide) (br_f (by decide) (br_f (by decide) (br_t rfl ⟨by rw [hcc, c5]; exact qt_pkC hB, I'⟩)))))))⟩⟩)⟩))))))
  · have e : j = 3 := by
      rcases hj with z | z
      · exact absurd z.1 hj3
      · exact z.1
    exact ix_t2 hj rfl (by decide) (fun z _ => absurd z hj3) (fun _ => ym_in hj (by decide) rfl (fun z => absurd z hj3) (fun _ => br_t rfl ⟨rfl, I'⟩))
