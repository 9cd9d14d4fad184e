/-! reading the replicas: the reference -/
theorem ym_goodStamp {T : qt_T} {nu : Nat → Bool} {st un : Nat → Nat} {ua : Nat → Int32} {v : SY} (h : sy_T T v) (hI : qt_iv T) (hD : sy_D (nu, st, un, ua) v) (hb : rd_bd (nu, st, un, ua)) {post : Int32 → Prop} {b : Nat} (hb16 : b < 16) (hin : qt_in (qt_rl T) (qt_ro T) b) (hp : post (qt_m (rd_G nu st b (qt_sp T b)))) : wpY_goodStamp post v (nI b) := by
  obtain ⟨f_active, f_epoch, a_nodeUp, a_journalUp, a_masterUp, a_touch, a_log, a_many, a_promise, a_base, a_stamp, a_units, a_unit, a_sort, a_placeOf, a_client, a_rowLength, a_row, a_closedWith, a_stampOf⟩ := v
  have h8 := qt_iv8 hI b hb16
  have hB : ∀ n, n ≤ 5 → rd_gm nu st b n ≤ 2000000 := fun n hn => rd_gmB hb16 hb.1 hn
  refine ⟨6, lq_f (fun n d s => wY_goodStamp_4 post (nI b) f_active f_epoch a_nodeUp a_journalUp a_masterUp a_touch a_log a_many a_promise a_base a_stamp a_units a_unit a_sort a_placeOf a_client a_rowLength a_row a_closedWith a_stampOf n s (nI d)) 5 (fun d => qt_m (rd_gm nu st b d)) (fun n => br_t lb_t ⟨vp_in_nI hb16 (by decide), ?_⟩) (fun n d hd H => ?_) 6 0 (by omega) (by omega)⟩
  · have hg := hB 5 (by decide)
    have e : a_stampOf (nI b).toNatClampNeg = nI (qt_sp T b) := by rw [nI_clamp (by omega)]; exact qt_ag7 h b hb16 (Or.inr hin)
    rw [e]
    unfold rd_G at hp
    refine cd_if (qt_mN (a := rd_gm nu st b 5) (by omega) (by omega)) (fun z => ?_) (fun z => ?_)
    · rw [if_neg (by omega), qt_m0] at hp; exact hp
    · rw [if_pos (by omega)] at hp; exact hp
  · have hg := hB d (by omega)
    have hc : 16 * d + b < 80 := by omega
    have hs := hb.1 (16 * d + b) hc
    have H' : wY_goodStamp_4 post (nI b) f_active f_epoch a_nodeUp a_journalUp a_masterUp a_touch a_log a_many a_promise a_base a_stamp a_units a_unit a_sort a_placeOf a_client a_rowLength a_row a_closedWith a_stampOf n (qt_m (rd_gm nu st b (d + 1))) (nI (d + 1)) := H
    rw [rd_gmS] at H'
    have es : a_stamp (nI (16 * d + b)).toNatClampNeg = qt_m (st (16 * d + b)) := by rw [nI_clamp (by omega)]; exact hD.2.1 _ hc
    refine br_f (lb_f hd) ⟨vp_in_nI hd (by decide), cd_if (cd_p (hD.1 d hd) (by omega)) (fun hu => nm_r (nI_1 d) ?_) (fun hu => ?_)⟩
    · rw [if_neg (fun w => by rw [hu] at w; exact absurd w.1 (by decide))] at H'; exact H'
    · have hu' : nu d = true := by simpa using hu
      rw [show 16 * nI d + nI b = nI (16 * d + b) from mu_l d 16 b, es]
      refine ⟨vp_in_nI hc (by decide), cd_if (qt_mle (b := rd_gm nu st b d) (by omega) (by omega)) (fun x => nm_r (nI_1 d) ?_) (fun x => ⟨vp_in_nI hc (by decide), nm_e (nm_r (nI_1 d) ?_)⟩)⟩
      · rw [if_neg (fun w => by omega)] at H'; exact H'
      · rw [if_pos ⟨hu', by omega⟩] at H'; exact H'
theorem rd_GB {nu : Nat → Bool} {st : Nat → Nat} {b s B : Nat} (hb : b < 16) (h : ∀ c, c < 80 → st c ≤ B) : rd_G nu st b s ≤ B := by
  have := rd_gmB (nu := nu) hb h (n := 5) (by decide)
  unfold rd_G
  split <;> omega
theorem ym_isGood {T : qt_T} {nu : Nat → Bool} {st un : Nat → Nat} {ua : Nat → Int32} {v : SY} (h : sy_T T v) (hI : qt_iv T) (hD : sy_D (nu, st, un, ua) v) (hb : rd_bd (nu, st, un, ua)) {post : Int32 → Prop} {b d : Nat} (hb16 : b < 16) (hin : qt_in (qt_rl T) (qt_ro T) b) (hd : d < 5) (h1 : rd_g nu st b (qt_sp T b) d = true → post 1) (h0 : rd_g nu st b (qt_sp T b) d = false → post 0) : wpY_isGood post v (nI d) (nI b) := by
  obtain ⟨f_active, f_epoch, a_nodeUp, a_journalUp, a_masterUp, a_touch, a_log, a_many, a_promise, a_base, a_stamp, a_units, a_unit, a_sort, a_placeOf, a_client, a_rowLength, a_row, a_closedWith, a_stampOf⟩ := v
  unfold wpY_isGood
  have hG := rd_GB (nu := nu) (s := qt_sp T b) hb16 hb.1
  have hc : 16 * d + b < 80 := by omega
  have hs := hb.1 (16 * d + b) hc
  have es : a_stamp (nI (16 * d + b)).toNatClampNeg = qt_m (st (16 * d + b)) := by rw [nI_clamp (by omega)]; exact hD.2.1 _ hc
  have hn : ¬ (0 < rd_G nu st b (qt_sp T b) ∧ nu d = true ∧ st (16 * d + b) = rd_G nu st b (qt_sp T b)) → post 0 := by
    intro z
    refine h0 ?_
    unfold rd_g
    exact decide_eq_false z
  refine ym_goodStamp (v := (f_active, f_epoch, a_nodeUp, a_journalUp, a_masterUp, a_touch, a_log, a_many, a_promise, a_base, a_stamp, a_units, a_unit, a_sort, a_placeOf, a_client, a_rowLength, a_row, a_closedWith, a_stampOf)) h hI hD hb hb16 hin (cd_if (qt_mZ (by omega)) (fun z => hn (fun y => by omega)) (fun z => ⟨vp_in_nI hd (by decide), cd_if (cd_p (hD.1 d hd) (by omega)) (fun hu => hn (fun y => by rw [hu] at y; exact absurd y.2.1 (by decide))) (fun hu => ?_)⟩))
  rw [show 16 * nI d + nI b = nI (16 * d + b) from mu_l d 16 b, es]
  exact ⟨vp_in_nI hc (by decide), cd_if (qt_mE (by omega) (by omega)) (fun y => h1 (rd_gI.mpr ⟨by omega, by simpa using hu, y⟩)) (fun y => hn (fun x => y x.2.2))⟩
theorem ym_first {T : qt_T} {nu : Nat → Bool} {st un : Nat → Nat} {ua : Nat → Int32} {v : SY} (h : sy_T T v) (hI : qt_iv T) (hD : sy_D (nu, st, un, ua) v) (hb : rd_bd (nu, st, un, ua)) {post : Int32 → Prop} {b m : Nat} (hb16 : b < 16) (hin : qt_in (qt_rl T) (qt_ro T) b) (hm : ls_f (fun d => rd_g nu st b (qt_sp T b) d = true) 5 m) (hp : post (ls_v 5 m)) : wpY_first post v (nI b) := by
  obtain ⟨f_active, f_epoch, a_nodeUp, a_journalUp, a_masterUp, a_touch, a_log, a_many, a_promise, a_base, a_stamp, a_units, a_unit, a_sort, a_placeOf, a_client, a_rowLength, a_row, a_closedWith, a_stampOf⟩ := v
  refine ⟨6, lq_s (fun n d => wY_first_2 post (nI b) f_active f_epoch a_nodeUp a_journalUp a_masterUp a_touch a_log a_many a_promise a_base a_stamp a_units a_unit a_sort a_placeOf a_client a_rowLength a_row a_closedWith a_stampOf n (nI d)) 5 m hm.1 (fun n e => ?_) (fun n hlt => ?_) (fun n d hd H => ?_) 6 0 (by omega) (by omega)⟩
  · subst e
    rw [ls_vN] at hp
    exact br_t lb_t hp
  · rw [ls_vS hlt] at hp
    have z := hm.2.2 hlt
    exact br_f (lb_f hlt) (ym_isGood (v := (f_active, f_epoch, a_nodeUp, a_journalUp, a_masterUp, a_touch, a_log, a_many, a_promise, a_base, a_stamp, a_units, a_unit, a_sort, a_placeOf, a_client, a_rowLength, a_row, a_closedWith, a_stampOf)) h hI hD hb hb16 hin hlt (fun _ => br_f bo_1 hp) (fun y => absurd (y.symm.trans z) (by decide)))
  · have hlt : d < 5 := by have := hm.1; omega
    have z := hm.2.1 d hd
    exact br_f (lb_f hlt) (ym_isGood (v := (f_active, f_epoch, a_nodeUp, a_journalUp, a_masterUp, a_touch, a_log, a_many, a_promise, a_base, a_stamp, a_units, a_unit, a_sort, a_placeOf, a_client, a_rowLength, a_row, a_closedWith, a_stampOf)) h hI hD hb hb16 hin hlt (fun y => absurd y z) (fun _ => br_t rfl (nm_r (nI_1 d) H)))
theorem ym_goodOnes {T : qt_T} {nu : Nat → Bool} {st un : Nat → Nat} {ua : Nat → Int32} {v : SY} (h : sy_T T v) (hI : qt_iv T) (hD : sy_D (nu, st, un, ua) v) (hb : rd_bd (nu, st, un, ua)) {post : Int32 → Prop} {b : Nat} (hb16 : b < 16) (hin : qt_in (qt_rl T) (qt_ro T) b) (hp : post (nI (rd_mk (rd_g nu st b (qt_sp T b)) 5))) : wpY_goodOnes post v (nI b) := by
  obtain ⟨f_active, f_epoch, a_nodeUp, a_journalUp, a_masterUp, a_touch, a_log, a_many, a_promise, a_base, a_stamp, a_units, a_unit, a_sort, a_placeOf, a_client, a_rowLength, a_row, a_closedWith, a_stampOf⟩ := v
  refine ⟨6, lq_f (fun n d s => wY_goodOnes_4 post (nI b) f_active f_epoch a_nodeUp a_journalUp a_masterUp a_touch a_log a_many a_promise a_base a_stamp a_units a_unit a_sort a_placeOf a_client a_rowLength a_row a_closedWith a_stampOf n s (nI d)) 5 (fun d => nI (rd_mk (rd_g nu st b (qt_sp T b)) d)) (fun n => br_t lb_t hp) (fun n d hd H => ?_) 6 0 (by omega) (by omega)⟩
  have H' : wY_goodOnes_4 post (nI b) f_active f_epoch a_nodeUp a_journalUp a_masterUp a_touch a_log a_many a_promise a_base a_stamp a_units a_unit a_sort a_placeOf a_client a_rowLength a_row a_closedWith a_stampOf n (nI (rd_mk (rd_g nu st b (qt_sp T b)) (d + 1))) (nI (d + 1)) := H
  rw [rd_mkS] at H'
  have hl := rd_mkL (rd_g nu st b (qt_sp T b)) d
  have hl2 : 2 ^ d ≤ 16 := by
    have : 2 ^ d ≤ 2 ^ 4 := Nat.pow_le_pow_right (by decide) (by omega)
    omega
  refine br_f (lb_f hd) (ym_isGood (v := (f_active, f_epoch, a_nodeUp, a_journalUp, a_masterUp, a_touch, a_log, a_many, a_promise, a_base, a_stamp, a_units, a_unit, a_sort, a_placeOf, a_client, a_rowLength, a_row, a_closedWith, a_stampOf)) h hI hD hb hb16 hin hd (fun z => br_f bo_1 (nm_r (rd_orN d hd _ (by omega) hl) (nm_r (nI_1 d) ?_))) (fun z => br_t rfl (nm_r (nI_1 d) ?_)))
  · rw [z] at H'; exact H'
  · rw [z] at H'; exact H'
theorem ym_hangs {T : qt_T} {nu : Nat → Bool} {st un : Nat → Nat} {ua : Nat → Int32} {v : SY} (h : sy_T T v) (hI : qt_iv T) (hD : sy_D (nu, st, un, ua) v) (hb : rd_bd (nu, st, un, ua)) {post : Int32 → Prop} {b : Nat} (hb16 : b < 16) (hin : qt_in (qt_rl T) (qt_ro T) b) (h1 : rd_hg nu st b (qt_sp T b) → post 1) (h0 : ¬ rd_hg nu st b (qt_sp T b) → post 0) : wpY_hangs post v (nI b) := by
  obtain ⟨f_active, f_epoch, a_nodeUp, a_journalUp, a_masterUp, a_touch, a_log, a_many, a_promise, a_base, a_stamp, a_units, a_unit, a_sort, a_placeOf, a_client, a_rowLength, a_row, a_closedWith, a_stampOf⟩ := v
  unfold wpY_hangs
  have hG := rd_GB (nu := nu) (s := qt_sp T b) hb16 hb.1
  refine ym_goodStamp (v := (f_active, f_epoch, a_nodeUp, a_journalUp, a_masterUp, a_touch, a_log, a_many, a_promise, a_base, a_stamp, a_units, a_unit, a_sort, a_placeOf, a_client, a_rowLength, a_row, a_closedWith, a_stampOf)) h hI hD hb hb16 hin ?_
  have key : ∀ k n d, d + k = 5 → k < n → (∀ e, e < d → ¬ (0 < rd_G nu st b (qt_sp T b) ∧ nu e = false ∧ st (16 * e + b) = rd_G nu st b (qt_sp T b))) → wY_hangs_8 post (nI b) (qt_m (rd_G nu st b (qt_sp T b))) f_active f_epoch a_nodeUp a_journalUp a_masterUp a_touch a_log a_many a_promise a_base a_stamp a_units a_unit a_sort a_placeOf a_client a_rowLength a_row a_closedWith a_stampOf n (nI d) := by
    intro k
    induction k with
    | zero =>
      intro n d hd hn H
      obtain ⟨n, rfl⟩ : ∃ n', n = n' + 1 := ⟨n - 1, by omega⟩
      have e : d = 5 := by omega
      subst e
      exact br_t lb_t (h0 (fun ⟨e, he, z1, z2, z3⟩ => H e he ⟨z1, z2, z3⟩))
    | succ k ih =>
      intro n d hd hn H
      obtain ⟨n, rfl⟩ : ∃ n', n = n' + 1 := ⟨n - 1, by omega⟩
      have hd5 : d < 5 := by omega
      have hc : 16 * d + b < 80 := by omega
      have hs := hb.1 (16 * d + b) hc
      have es : a_stamp (nI (16 * d + b)).toNatClampNeg = qt_m (st (16 * d + b)) := by rw [nI_clamp (by omega)]; exact hD.2.1 _ hc
      have go : ¬ (0 < rd_G nu st b (qt_sp T b) ∧ nu d = false ∧ st (16 * d + b) = rd_G nu st b (qt_sp T b)) → wY_hangs_8 post (nI b) (qt_m (rd_G nu st b (qt_sp T b))) f_active f_epoch a_nodeUp a_journalUp a_masterUp a_touch a_log a_many a_promise a_base a_stamp a_units a_unit a_sort a_placeOf a_client a_rowLength a_row a_closedWith a_stampOf n (nI (d + 1)) := by
        intro z
        refine ih n (d + 1) (by omega) (by omega) (fun e he => ?_)
        by_cases e' : e = d
        · subst e'; exact z
        · exact H e (by omega)
      refine br_f (lb_f hd5) (cd_if (qt_mZ (by omega)) (fun z => nm_r (nI_1 d) (go (fun y => by omega))) (fun z => ⟨vp_in_nI hd5 (by decide), cd_if (cd_p (hD.1 d hd5) (by omega)) (fun hu => ?_) (fun hu => nm_r (nI_1 d) (go (fun y => hu y.2.1)))⟩))
      rw [show 16 * nI d + nI b = nI (16 * d + b) from mu_l d 16 b, es]
      exact ⟨vp_in_nI hc (by decide), cd_if (qt_mE (by omega) (by omega)) (fun y => h1 ⟨d, hd5, by omega, hu, y⟩) (fun y => nm_r (nI_1 d) (go (fun x => y x.2.2)))⟩
  exact ⟨6, key 5 6 0 (by omega) (by omega) (fun e he => by omega)⟩
theorem ym_bound0 {T : qt_T} {nu : Nat → Bool} {st un : Nat → Nat} {ua : Nat → Int32} {v : SY} (h : sy_T T v) (hI : qt_iv T) (hD : sy_D (nu, st, un, ua) v) (hb : rd_bd (nu, st, un, ua)) {post : Int32 → Prop} {b : Nat} (hb16 : b < 16) (hin : qt_in (qt_rl T) (qt_ro T) b) (hp : post (qt_m (rd_fw (rd_g nu st b (qt_sp T b)) un b 5))) : wpY_bound post v (nI b) 0 := by
  obtain ⟨f_active, f_epoch, a_nodeUp, a_journalUp, a_masterUp, a_touch, a_log, a_many, a_promise, a_base, a_stamp, a_units, a_unit, a_sort, a_placeOf, a_client, a_rowLength, a_row, a_closedWith, a_stampOf⟩ := v
  refine ⟨6, lq_f (fun n d s => wY_bound_5 post (nI b) 0 f_active f_epoch a_nodeUp a_journalUp a_masterUp a_touch a_log a_many a_promise a_base a_stamp a_units a_unit a_sort a_placeOf a_client a_rowLength a_row a_closedWith a_stampOf n s (nI d)) 5 (fun d => qt_m (rd_fw (rd_g nu st b (qt_sp T b)) un b d)) (fun n => br_t lb_t hp) (fun n d hd H => ?_) 6 0 (by omega) (by omega)⟩
  have hc : 16 * d + b < 80 := by omega
  have hu := hb.2 (16 * d + b) hc
  have hw := rd_fwB (f := rd_g nu st b (qt_sp T b)) hb16 hb.2 (n := d) (by omega)
  have H' : wY_bound_5 post (nI b) 0 f_active f_epoch a_nodeUp a_journalUp a_masterUp a_touch a_log a_many a_promise a_base a_stamp a_units a_unit a_sort a_placeOf a_client a_rowLength a_row a_closedWith a_stampOf n (qt_m (rd_fw (rd_g nu st b (qt_sp T b)) un b (d + 1))) (nI (d + 1)) := H
  rw [rd_fwS] at H'
  have eu : a_units (nI (16 * d + b)).toNatClampNeg = nI (un (16 * d + b)) := by rw [nI_clamp (by omega)]; exact hD.2.2.1 _ hc
  refine br_f (lb_f hd) (ym_isGood (v := (f_active, f_epoch, a_nodeUp, a_journalUp, a_masterUp, a_touch, a_log, a_many, a_promise, a_base, a_stamp, a_units, a_unit, a_sort, a_placeOf, a_client, a_rowLength, a_row, a_closedWith, a_stampOf)) h hI hD hb hb16 hin hd (fun z => ?_) (fun z => ?_))
  · show vp_in (16 * nI d + nI b) 80 ∧ _
    rw [show 16 * nI d + nI b = nI (16 * d + b) from mu_l d 16 b]
    refine ⟨vp_in_nI hc (by decide), nm_r eu (br_f bo_1 (cd_if (qt_mZ (by omega)) (fun y => nm_r (nI_1 d) ?_) (fun y => br_t rfl (cd_if (qt_mleN (by omega) (by omega)) (fun x => nm_r (nI_1 d) ?_) (fun x => nm_r (nI_1 d) ?_)))))⟩
    · rw [if_pos ⟨z, Or.inl y⟩, qt_ms] at H'; exact H'
    · rw [if_neg (fun w => by rcases w.2 with v | v <;> omega)] at H'; exact H'
    · rw [if_pos ⟨z, Or.inr (by omega)⟩, qt_ms] at H'; exact H'
  · show vp_in (16 * nI d + nI b) 80 ∧ _
    rw [show 16 * nI d + nI b = nI (16 * d + b) from mu_l d 16 b]
    refine ⟨vp_in_nI hc (by decide), nm_r eu (br_t rfl (nm_r (nI_1 d) ?_))⟩
    rw [if_neg (fun w => by rw [z] at w; exact absurd w.1 (by decide))] at H'; exact H'
theorem ym_bound1 {T : qt_T} {nu : Nat → Bool} {st un : Nat → Nat} {ua : Nat → Int32} {v : SY} (h : sy_T T v) (hI : qt_iv T) (hD : sy_D (nu, st, un, ua) v) (hb : rd_bd (nu, st, un, ua)) {post : Int32 → Prop} {b : Nat} (hb16 : b < 16) (hin : qt_in (qt_rl T) (qt_ro T) b) (hp : post (qt_m (rd_mo (rd_g nu st b (qt_sp T b)) un b 5))) : wpY_bound post v (nI b) 1 := by
  obtain ⟨f_active, f_epoch, a_nodeUp, a_journalUp, a_masterUp, a_touch, a_log, a_many, a_promise, a_base, a_stamp, a_units, a_unit, a_sort, a_placeOf, a_client, a_rowLength, a_row, a_closedWith, a_stampOf⟩ := v
  refine ⟨6, lq_f (fun n d s => wY_bound_5 post (nI b) 1 f_active f_epoch a_nodeUp a_journalUp a_masterUp a_touch a_log a_many a_promise a_base a_stamp a_units a_unit a_sort a_placeOf a_client a_rowLength a_row a_closedWith a_stampOf n s (nI d)) 5 (fun d => qt_m (rd_mo (rd_g nu st b (qt_sp T b)) un b d)) (fun n => br_t lb_t hp) (fun n d hd H => ?_) 6 0 (by omega) (by omega)⟩
  have hc : 16 * d + b < 80 := by omega
  have hu := hb.2 (16 * d + b) hc
  have hw := rd_moB (f := rd_g nu st b (qt_sp T b)) hb16 hb.2 (n := d) (by omega)
  have H' : wY_bound_5 post (nI b) 1 f_active f_epoch a_nodeUp a_journalUp a_masterUp a_touch a_log a_many a_promise a_base a_stamp a_units a_unit a_sort a_placeOf a_client a_rowLength a_row a_closedWith a_stampOf n (qt_m (rd_mo (rd_g nu st b (qt_sp T b)) un b (d + 1))) (nI (d + 1)) := H
  rw [rd_moS] at H'
  have eu : a_units (nI (16 * d + b)).toNatClampNeg = nI (un (16 * d + b)) := by rw [nI_clamp (by omega)]; exact hD.2.2.1 _ hc
  refine br_f (lb_f hd) (ym_isGood (v := (f_active, f_epoch, a_nodeUp, a_journalUp, a_masterUp, a_touch, a_log, a_many, a_promise, a_base, a_stamp, a_units, a_unit, a_sort, a_placeOf, a_client, a_rowLength, a_row, a_closedWith, a_stampOf)) h hI hD hb hb16 hin hd (fun z => ?_) (fun z => ?_))
  · show vp_in (16 * nI d + nI b) 80 ∧ _
    rw [show 16 * nI d + nI b = nI (16 * d + b) from mu_l d 16 b]
    refine ⟨vp_in_nI hc (by decide), nm_r eu (br_f bo_1 (cd_if (qt_mZ (by omega)) (fun y => nm_r (nI_1 d) ?_) (fun y => br_f bo_1 (cd_if (qt_Nm (by omega) (by omega)) (fun x => nm_r (nI_1 d) ?_) (fun x => nm_r (nI_1 d) ?_)))))⟩
    · rw [if_pos ⟨z, by omega⟩, qt_ms] at H'; exact H'
    · rw [if_neg (fun w => by omega)] at H'; exact H'
    · rw [if_pos ⟨z, by omega⟩, qt_ms] at H'; exact H'
  · show vp_in (16 * nI d + nI b) 80 ∧ _
    rw [show 16 * nI d + nI b = nI (16 * d + b) from mu_l d 16 b]
    refine ⟨vp_in_nI hc (by decide), nm_r eu (br_t rfl (nm_r (nI_1 d) ?_))⟩
    rw [if_neg (fun w => by rw [z] at w; exact absurd w.1 (by decide))] at H'; exact H'
theorem ym_load {nu : Nat → Bool} {st un : Nat → Nat} {ua : Nat → Int32} {v : SY} (hD : sy_D (nu, st, un, ua) v) (hb : rd_bd (nu, st, un, ua)) {post : Int32 → Prop} {d : Nat} (hd : d < 5) (hp : post (nI (rd_ld st d 16))) : wpY_load post v (nI d) := by
  obtain ⟨f_active, f_epoch, a_nodeUp, a_journalUp, a_masterUp, a_touch, a_log, a_many, a_promise, a_base, a_stamp, a_units, a_unit, a_sort, a_placeOf, a_client, a_rowLength, a_row, a_closedWith, a_stampOf⟩ := v
  refine ⟨17, lq_f (fun n b s => wY_load_4 post (nI d) f_active f_epoch a_nodeUp a_journalUp a_masterUp a_touch a_log a_many a_promise a_base a_stamp a_units a_unit a_sort a_placeOf a_client a_rowLength a_row a_closedWith a_stampOf n s (nI b)) 16 (fun b => nI (rd_ld st d b)) (fun n => br_t lb_t hp) (fun n b hb' H => ?_) 17 0 (by omega) (by omega)⟩
  have hc : 16 * d + b < 80 := by omega
  have hs := hb.1 (16 * d + b) hc
  have H' : wY_load_4 post (nI d) f_active f_epoch a_nodeUp a_journalUp a_masterUp a_touch a_log a_many a_promise a_base a_stamp a_units a_unit a_sort a_placeOf a_client a_rowLength a_row a_closedWith a_stampOf n (nI (rd_ld st d (b + 1))) (nI (b + 1)) := H
  rw [rd_ldS] at H'
  have es : a_stamp (nI (16 * d + b)).toNatClampNeg = qt_m (st (16 * d + b)) := by rw [nI_clamp (by omega)]; exact hD.2.1 _ hc
  refine br_f (lb_f hb') ?_
  rw [show 16 * nI d + nI b = nI (16 * d + b) from mu_l d 16 b, es]
  refine ⟨vp_in_nI hc (by decide), cd_if (qt_mZ (by omega)) (fun z => nm_r (nI_1 b) ?_) (fun z => nm_r (nI_1 _) (nm_r (nI_1 b) ?_))⟩
  · rw [if_pos z] at H'; exact H'
  · rw [if_neg z] at H'; exact H'
theorem ym_idlest {nu : Nat → Bool} {st un : Nat → Nat} {ua : Nat → Int32} {v : SY} (hD : sy_D (nu, st, un, ua) v) (hb : rd_bd (nu, st, un, ua)) {post : Int32 → Prop} {f : Nat → Bool} (hp : post (qt_m (rd_il nu st f 5))) : wpY_idlest post v (nI (rd_mk f 5)) := by
  obtain ⟨f_active, f_epoch, a_nodeUp, a_journalUp, a_masterUp, a_touch, a_log, a_many, a_promise, a_base, a_stamp, a_units, a_unit, a_sort, a_placeOf, a_client, a_rowLength, a_row, a_closedWith, a_stampOf⟩ := v
  refine ⟨6, lq_f (fun n d s => wY_idlest_4 post (nI (rd_mk f 5)) f_active f_epoch a_nodeUp a_journalUp a_masterUp a_touch a_log a_many a_promise a_base a_stamp a_units a_unit a_sort a_placeOf a_client a_rowLength a_row a_closedWith a_stampOf n s (nI d)) 5 (fun d => qt_m (rd_il nu st f d)) (fun n => br_t lb_t hp) (fun n d hd H => ?_) 6 0 (by omega) (by omega)⟩
  have H' : wY_idlest_4 post (nI (rd_mk f 5)) f_active f_epoch a_nodeUp a_journalUp a_masterUp a_touch a_log a_many a_promise a_base a_stamp a_units a_unit a_sort a_placeOf a_client a_rowLength a_row a_closedWith a_stampOf n (qt_m (rd_il nu st f (d + 1))) (nI (d + 1)) := H
  rw [rd_ilS] at H'
  have hl := rd_ldB st d 16
  have hil : rd_il nu st f d ≤ d := by
    rcases rd_ilP (nu := nu) (st := st) (ok := f) (n := d) with z | z <;> omega
  refine br_f (lb_f hd) (cd_if (rd_b0 f hd) (fun z => nm_r (nI_1 d) ?_) (fun z => ⟨vp_in_nI hd (by decide), cd_if (cd_p (hD.1 d hd) (by omega)) (fun hu => nm_r (nI_1 d) ?_) (fun hu => ?_)⟩))
  · rw [if_neg (fun w => by rw [z] at w; exact absurd w.1 (by decide))] at H'; exact H'
  · rw [if_neg (fun w => by rw [hu] at w; exact absurd w.2.1 (by decide))] at H'; exact H'
  · have z' : f d = true := by simpa using z
    have hu' : nu d = true := by simpa using hu
    refine cd_if (qt_mZ (by omega)) (fun y => br_f bo_1 (nm_r (nI_1 d) ?_)) (fun y => ym_load (v := (f_active, f_epoch, a_nodeUp, a_journalUp, a_masterUp, a_touch, a_log, a_many, a_promise, a_base, a_stamp, a_units, a_unit, a_sort, a_placeOf, a_client, a_rowLength, a_row, a_closedWith, a_stampOf)) hD hb hd ?_)
    · rw [if_pos ⟨z', hu', Or.inl y⟩, qt_ms] at H'; exact H'
    · obtain ⟨i, hi⟩ : ∃ i, rd_il nu st f d = i + 1 := ⟨rd_il nu st f d - 1, by omega⟩
      rw [hi] at H' hil
      have hl2 := rd_ldB st i 16
      show wpY_load _ (f_active, f_epoch, a_nodeUp, a_journalUp, a_masterUp, a_touch, a_log, a_many, a_promise, a_base, a_stamp, a_units, a_unit, a_sort, a_placeOf, a_client, a_rowLength, a_row, a_closedWith, a_stampOf) (qt_m (rd_il nu st f d))
      rw [hi, qt_ms]
      refine ym_load (v := (f_active, f_epoch, a_nodeUp, a_journalUp, a_masterUp, a_touch, a_log, a_many, a_promise, a_base, a_stamp, a_units, a_unit, a_sort, a_placeOf, a_client, a_rowLength, a_row, a_closedWith, a_stampOf)) hD hb (by omega) (cd_if (nI_leI (by omega) (by omega)) (fun x => br_t rfl (nm_r (nI_1 d) ?_)) (fun x => br_f bo_1 (nm_r (nI_1 d) ?_)))
      · rw [if_neg (fun w => by rcases w.2.2 with v | v <;> simp at v <;> omega), qt_ms] at H'; exact H'
      · rw [if_pos ⟨z', hu', Or.inr (by simp; omega)⟩, qt_ms] at H'; exact H'
