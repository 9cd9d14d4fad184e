/-! tend: the reference, and both -/
section
variable {T : qt_T} {mu ju : Nat → Bool} {ac ep : Nat} {to : Nat → Bool} {pr ba le : Nat → Nat} {lg : Nat → Nat → qt_R} {nu : Nat → Bool} {st un : Nat → Nat} {ua : Nat → Int32}
theorem ym_ones {post : Int32 → Prop} {f : Nat → Bool} (hp : post (nI (rd_cn f 5))) : wpY_ones post (nI (rd_mk f 5)) := by
  refine ⟨6, lq_f (fun n d s => wY_ones_4 post (nI (rd_mk f 5)) n s (nI d)) 5 (fun d => nI (rd_cn f d)) (fun n => br_t lb_t hp) (fun n d hd H => ?_) 6 0 (by omega) (by omega)⟩
  refine br_f (lb_f hd) (nm_r (e' := nI (rd_cn f (d + 1))) ?_ (nm_r (nI_1 d) H))
  rw [rd_bv f d hd, rd_cnS]
  cases f d with
  | true => exact nI_add _ 1
  | false => exact nI_add _ 0
theorem ym_copied {v : SY} (h : sy_T T v) (hI : qt_iv T) (hL : sy_L (mu, ju, ac, ep, to, pr, ba, le, lg) v) (hD : sy_D (nu, st, un, ua) v) (hb : rd_bd (nu, st, un, ua)) {post : Int32 → SY → Prop} {b m t : Nat} (hbm : ls_f (rd_cpb T nu st) 16 b) (hm : b < 16 → ls_f (fun d => rd_g nu st b (qt_sp T b) d = true) 5 m ∧ m < 5 ∧ t < 5 ∧ rd_il nu st (fun x => !rd_g nu st b (qt_sp T b) x) 5 = t + 1) (hmt : b < 16 → m ≠ t)
    (h0 : b = 16 → post (-1) v) (h1 : b < 16 → ∀ v', sy_L (mu, ju, ac, ep, to, pr, ba, le, lg) v' → sy_D (rd_cpD (nu, st, un, ua) b m t) v' → post (nI b) v') : wpY_copied post v := by
  obtain ⟨f_active, f_epoch, a_nodeUp, a_journalUp, a_masterUp, a_touch, a_log, a_many, a_promise, a_base, a_stamp, a_units, a_unit, a_sort, a_placeOf, a_client, a_rowLength, a_row, a_closedWith, a_stampOf⟩ := v
  have i0 : nI (rd_mk (fun _ => false) 5) = 0 := by rw [rd_mk0]; rfl
  have s45z : ∀ (J : Int32 → Prop) d, J (nI (d + 1)) → wY_copied_45 post J (nI d) 0 f_active f_epoch a_nodeUp a_journalUp a_masterUp a_touch a_log a_many a_promise a_base a_stamp a_units a_unit a_sort a_placeOf a_client a_rowLength a_row a_closedWith a_stampOf := by
    intro J d H
    have e1 : 31 &&& ((0 : Int32) ^^^ (-1)) = nI (rd_mk (fun _ => true) 5) := by decide +kernel
    have K : wpY_ones (fun r_25 => (wpY_idlest (fun r_26 => (((r_25 = 0 → (∀ x, x = nI d + 1 → (J x))) ∧ (¬ r_25 = 0 → (((2 < r_25 → (∀ x, x = nI d + 1 → (J x))) ∧ (¬ 2 < r_25 → (((0 ≤ r_26 → (wpY_first (fun r_52 => (∀ x6, x6 = (16 * r_52) + nI d → (∀ x7, x7 = (16 * r_26) + nI d → (vp_in x6 80 ∧ (vp_in x7 80 ∧ ∀ a_stamp_77, a_stamp_77 = upd a_stamp x7.toNatClampNeg (a_stamp x6.toNatClampNeg) → (vp_in x6 80 ∧ (vp_in x7 80 ∧ ∀ a_units_80, a_units_80 = upd a_units x7.toNatClampNeg (a_units x6.toNatClampNeg) → (∃ n135 : Nat, wY_copied_135 post (nI d) x6 x7 f_active f_epoch n135 0 a_nodeUp a_journalUp a_masterUp a_touch a_log a_many a_promise a_base a_stamp_77 a_units_80 a_unit a_sort a_placeOf a_client a_rowLength a_row a_closedWith a_stampOf)))))))) (f_active, f_epoch, a_nodeUp, a_journalUp, a_masterUp, a_touch, a_log, a_many, a_promise, a_base, a_stamp, a_units, a_unit, a_sort, a_placeOf, a_client, a_rowLength, a_row, a_closedWith, a_stampOf) (nI d))) ∧ (¬ 0 ≤ r_26 → (∀ x, x = nI d + 1 → (J x)))))))))))) (f_active, f_epoch, a_nodeUp, a_journalUp, a_masterUp, a_touch, a_log, a_many, a_promise, a_base, a_stamp, a_units, a_unit, a_sort, a_placeOf, a_client, a_rowLength, a_row, a_closedWith, a_stampOf) (31 &&& ((0 : Int32) ^^^ (-1))))) (nI (rd_mk (fun _ => false) 5)) := by
      refine ym_ones ?_
      rw [e1]
      exact ym_idlest (v := (f_active, f_epoch, a_nodeUp, a_journalUp, a_masterUp, a_touch, a_log, a_many, a_promise, a_base, a_stamp, a_units, a_unit, a_sort, a_placeOf, a_client, a_rowLength, a_row, a_closedWith, a_stampOf)) hD hb (br_t (by decide) (nm_r (nI_1 d) H))
    rw [i0] at K
    exact K
  have s45 : ∀ (J : Int32 → Prop) d, d < 16 → qt_in (qt_rl T) (qt_ro T) d → ¬ qt_ol T d → ¬ rd_cpb T nu st d → J (nI (d + 1)) → wY_copied_45 post J (nI d) (nI (rd_mk (rd_g nu st d (qt_sp T d)) 5)) f_active f_epoch a_nodeUp a_journalUp a_masterUp a_touch a_log a_many a_promise a_base a_stamp a_units a_unit a_sort a_placeOf a_client a_rowLength a_row a_closedWith a_stampOf := by
    intro J d hd c1 c2 z H
    have hil : rd_il nu st (fun x => !rd_g nu st d (qt_sp T d) x) 5 ≤ 5 := by
      rcases rd_ilP (nu := nu) (st := st) (ok := fun x => !rd_g nu st d (qt_sp T d) x) (n := 5) with y | y <;> omega
    have hcn := rd_cnL (rd_g nu st d (qt_sp T d)) 5
    unfold wY_copied_45
    refine ym_ones ?_
    rw [rd_co]
    refine ym_idlest (v := (f_active, f_epoch, a_nodeUp, a_journalUp, a_masterUp, a_touch, a_log, a_many, a_promise, a_base, a_stamp, a_units, a_unit, a_sort, a_placeOf, a_client, a_rowLength, a_row, a_closedWith, a_stampOf)) hD hb (cd_if (nI_eq (b := 0) (by omega) (by decide)) (fun c3 => nm_r (nI_1 d) H) (fun c3 => cd_if (nI_ltI (a := 2) (by decide) (by omega)) (fun c4 => nm_r (nI_1 d) H) (fun c4 => cd_if (qt_Nm (s := 0) (by omega) (by decide)) (fun c5 => absurd ⟨c1, c2, by omega, by omega, by omega⟩ z) (fun c5 => nm_r (nI_1 d) H))))
  refine ⟨17, lq_s (fun n d => wY_copied_2 post f_active f_epoch a_nodeUp a_journalUp a_masterUp a_touch a_log a_many a_promise a_base a_stamp a_units a_unit a_sort a_placeOf a_client a_rowLength a_row a_closedWith a_stampOf n (nI d)) 16 b hbm.1 (fun n e => ?_) (fun n hlt => ?_) (fun n d hd H => ?_) 17 0 (by omega) (by omega)⟩
  · exact br_t lb_t (h0 e)
  · obtain ⟨c1, c2, c3, c4, c5⟩ := hbm.2.2 hlt
    obtain ⟨m1, m2, m3, m4⟩ := hm hlt
    have hne := hmt hlt
    have hc : 16 * m + b < 80 := by omega
    have hc2 : 16 * t + b < 80 := by omega
    have hu := hb.2 _ hc
    have hcc : (nI (16 * m + b)).toNatClampNeg = 16 * m + b := nI_clamp (by omega)
    have hcc2 : (nI (16 * t + b)).toNatClampNeg = 16 * t + b := nI_clamp (by omega)
    have hv := vp_in_nI hc (by decide : 80 < 2 ^ 31)
    have hv2 := vp_in_nI hc2 (by decide : 80 < 2 ^ 31)
    have hcn := rd_cnL (rd_g nu st b (qt_sp T b)) 5
    refine br_f (lb_f hlt) (ym_inRow (v := (f_active, f_epoch, a_nodeUp, a_journalUp, a_masterUp, a_touch, a_log, a_many, a_promise, a_base, a_stamp, a_units, a_unit, a_sort, a_placeOf, a_client, a_rowLength, a_row, a_closedWith, a_stampOf)) h hI hlt (fun _ => br_f bo_1 (ym_isOpenLast (v := (f_active, f_epoch, a_nodeUp, a_journalUp, a_masterUp, a_touch, a_log, a_many, a_promise, a_base, a_stamp, a_units, a_unit, a_sort, a_placeOf, a_client, a_rowLength, a_row, a_closedWith, a_stampOf)) h hI hlt (fun z => absurd z c2) (fun _ => br_t rfl (br_f bo_1 (ym_goodOnes (v := (f_active, f_epoch, a_nodeUp, a_journalUp, a_masterUp, a_touch, a_log, a_many, a_promise, a_base, a_stamp, a_units, a_unit, a_sort, a_placeOf, a_client, a_rowLength, a_row, a_closedWith, a_stampOf)) h hI hD hb hlt c1 ?_))))) (fun z => absurd c1 z))
    unfold wY_copied_45
    refine ym_ones ?_
    rw [rd_co]
    refine ym_idlest (v := (f_active, f_epoch, a_nodeUp, a_journalUp, a_masterUp, a_touch, a_log, a_many, a_promise, a_base, a_stamp, a_units, a_unit, a_sort, a_placeOf, a_client, a_rowLength, a_row, a_closedWith, a_stampOf)) hD hb ?_
    rw [m4, qt_ms]
    refine br_f (fun z => by have := (nI_eq (b := 0) (by omega) (by decide)).mp z; omega) (br_f (fun z => by have := (nI_ltI (a := 2) (by decide) (by omega)).mp z; omega) (br_t (ix_0 (by omega)) (ym_first (v := (f_active, f_epoch, a_nodeUp, a_journalUp, a_masterUp, a_touch, a_log, a_many, a_promise, a_base, a_stamp, a_units, a_unit, a_sort, a_placeOf, a_client, a_rowLength, a_row, a_closedWith, a_stampOf)) h hI hD hb hlt c1 m1 ?_)))
    rw [ls_vS m2]
    obtain ⟨l1, l2, l3, l4, l5, l6, l7, l8, l9⟩ := hL
    obtain ⟨d1, d2, d3, d4⟩ := hD
    refine nm_r (mu_l m 16 b) (nm_r (mu_l t 16 b) ⟨hv, hv2, nm_e ⟨hv, hv2, nm_e ?_⟩⟩)
    rw [hcc, hcc2]
    have ku : ∀ j, j < 80 → upd a_units (16 * t + b) (a_units (16 * m + b)) j = nI (qt_u un (16 * t + b) (un (16 * m + b)) j) := by
      intro j hj
      by_cases z : j = 16 * t + b
      · subst z; rw [pk_us, qt_us]; exact d3 _ hc
      · rw [pk_un z, qt_un z]; exact d3 j hj
    have ks : ∀ j, j < 80 → upd a_stamp (16 * t + b) (a_stamp (16 * m + b)) j = qt_m (qt_u st (16 * t + b) (st (16 * m + b)) j) := by
      intro j hj
      by_cases z : j = 16 * t + b
      · subst z; rw [pk_us, qt_us]; exact d2 _ hc
      · rw [pk_un z, qt_un z]; exact d2 j hj
    have kf : upd a_units (16 * t + b) (a_units (16 * m + b)) (16 * m + b) = nI (un (16 * m + b)) := by
      rw [pk_un (by omega)]; exact d3 _ hc
    have key : ∀ k n j, j + k = un (16 * m + b) → k < n → ∀ aU : Nat → Int32, aU = rd_cp ua (16 * t + b) (16 * m + b) j → wY_copied_135 post (nI b) (nI (16 * m + b)) (nI (16 * t + b)) f_active f_epoch n (nI j) a_nodeUp a_journalUp a_masterUp a_touch a_log a_many a_promise a_base (upd a_stamp (16 * t + b) (a_stamp (16 * m + b))) (upd a_units (16 * t + b) (a_units (16 * m + b))) aU a_sort a_placeOf a_client a_rowLength a_row a_closedWith a_stampOf := by
      intro k
      induction k with
      | zero =>
        intro n j hj hn aU hU
        obtain ⟨n, rfl⟩ : ∃ n', n = n' + 1 := ⟨n - 1, by omega⟩
        have e : j = un (16 * m + b) := by omega
        refine ⟨hv, br_t ?_ (h1 hlt _ ⟨l1, l2, l3, l4, l5, l6, l7, l8, l9⟩ ⟨d1, ks, ku, ?_⟩)⟩
        · rw [hcc, kf, e]; exact lb_t
        · rw [hU, e]
      | succ k ih =>
        intro n j hj hn aU hU
        obtain ⟨n, rfl⟩ : ∃ n', n = n' + 1 := ⟨n - 1, by omega⟩
        refine ⟨hv, br_f ?_ ?_⟩
        · rw [hcc, kf]; exact lb_f (by omega) (by omega)
        · rw [show 8 * nI (16 * m + b) + nI j = nI (8 * (16 * m + b) + j) from mu_l _ 8 _, show 8 * nI (16 * t + b) + nI j = nI (8 * (16 * t + b) + j) from mu_l _ 8 _]
          refine ⟨vp_in_nI (by omega) (by decide), vp_in_nI (by omega) (by decide), nm_e (nm_r (nI_1 j) (ih n (j + 1) (by omega) (by omega) _ ?_))⟩
          rw [nI_clamp (by omega), nI_clamp (by omega), hU]
          rfl
    exact ⟨un (16 * m + b) + 1, key (un (16 * m + b)) _ 0 (by omega) (by omega) _ d4⟩
  · have hlt : d < 16 := by have := hbm.1; omega
    have z := hbm.2.1 d hd
    exact br_f (lb_f hlt) (ym_inRow (v := (f_active, f_epoch, a_nodeUp, a_journalUp, a_masterUp, a_touch, a_log, a_many, a_promise, a_base, a_stamp, a_units, a_unit, a_sort, a_placeOf, a_client, a_rowLength, a_row, a_closedWith, a_stampOf)) h hI hlt (fun c1 => br_f bo_1 (ym_isOpenLast (v := (f_active, f_epoch, a_nodeUp, a_journalUp, a_masterUp, a_touch, a_log, a_many, a_promise, a_base, a_stamp, a_units, a_unit, a_sort, a_placeOf, a_client, a_rowLength, a_row, a_closedWith, a_stampOf)) h hI hlt (fun _ => br_f bo_1 (br_t rfl (s45z _ d H))) (fun c2 => br_t rfl (br_f bo_1 (ym_goodOnes (v := (f_active, f_epoch, a_nodeUp, a_journalUp, a_masterUp, a_touch, a_log, a_many, a_promise, a_base, a_stamp, a_units, a_unit, a_sort, a_placeOf, a_client, a_rowLength, a_row, a_closedWith, a_stampOf)) h hI hD hb hlt c1 (s45 _ d hlt c1 c2 z H)))))) (fun _ => br_t rfl (br_t rfl (s45z _ d H))))
theorem ym_drop {v : SY} (h : sy_T T v) (hI : qt_iv T) (hL : sy_L (mu, ju, ac, ep, to, pr, ba, le, lg) v) (hD : sy_D (nu, st, un, ua) v) (hb : rd_bd (nu, st, un, ua)) {post : Int32 → SY → Prop} {d : Nat} (hd : d < 5) {keep : Nat → Bool} (hk : ∀ b, keep b = true ↔ qt_in (qt_rl T) (qt_ro T) b ∧ rd_g nu st b (qt_sp T b) d = true)
    (hp : ∀ v', sy_L (mu, ju, ac, ep, to, pr, ba, le, lg) v' → sy_D (nu, rd_dr keep d 16 st, un, ua) v' → post (nI (rd_cn (fun b => decide (st (16 * d + b) ≠ 0 ∧ keep b = false)) 16)) v') : ∀ f_active f_epoch a_nodeUp a_journalUp a_masterUp a_touch a_log a_many a_promise a_base a_stamp a_units a_unit a_sort a_placeOf a_client a_rowLength a_row a_closedWith a_stampOf, v = (f_active, f_epoch, a_nodeUp, a_journalUp, a_masterUp, a_touch, a_log, a_many, a_promise, a_base, a_stamp, a_units, a_unit, a_sort, a_placeOf, a_client, a_rowLength, a_row, a_closedWith, a_stampOf) → ∃ n, wY_tend_47 post (nI d) f_active f_epoch n 0 0 a_nodeUp a_journalUp a_masterUp a_touch a_log a_many a_promise a_base a_stamp a_units a_unit a_sort a_placeOf a_client a_rowLength a_row a_closedWith a_stampOf := by
  intro f_active f_epoch a_nodeUp a_journalUp a_masterUp a_touch a_log a_many a_promise a_base a_stamp a_units a_unit a_sort a_placeOf a_client a_rowLength a_row a_closedWith a_stampOf ev
  subst ev
  obtain ⟨l1, l2, l3, l4, l5, l6, l7, l8, l9⟩ := hL
  obtain ⟨d1, d2, d3, d4⟩ := hD
  have h' : qt_ag False T a_sort a_placeOf a_client a_closedWith a_rowLength a_row a_stampOf := h
  have key : ∀ k n b, b + k = 16 → k < n → ∀ aH : Nat → Int32, (∀ c, c < 80 → aH c = qt_m (rd_dr keep d b st c)) → wY_tend_47 post (nI d) f_active f_epoch n (nI (rd_cn (fun b => decide (st (16 * d + b) ≠ 0 ∧ keep b = false)) b)) (nI b) a_nodeUp a_journalUp a_masterUp a_touch a_log a_many a_promise a_base aH a_units a_unit a_sort a_placeOf a_client a_rowLength a_row a_closedWith a_stampOf := by
    intro k
    induction k with
    | zero =>
      intro n b hb' hn aH H
      obtain ⟨n, rfl⟩ : ∃ n', n = n' + 1 := ⟨n - 1, by omega⟩
      have e : b = 16 := by omega
      subst e
      exact br_t lb_t (hp _ ⟨l1, l2, l3, l4, l5, l6, l7, l8, l9⟩ ⟨d1, H, d3, d4⟩)
    | succ k ih =>
      intro n b hb' hn aH H
      obtain ⟨n, rfl⟩ : ∃ n', n = n' + 1 := ⟨n - 1, by omega⟩
      have hb16 : b < 16 := by omega
      have hc : 16 * d + b < 80 := by omega
      have hs := hb.1 _ hc
      have hv := vp_in_nI hc (by decide : 80 < 2 ^ 31)
      have hcc : (nI (16 * d + b)).toNatClampNeg = 16 * d + b := nI_clamp (by omega)
      have ecol : ∀ e, e < 5 → rd_dr keep d b st (16 * e + b) = st (16 * e + b) := fun e _ => rd_drN hb16 (Nat.le_refl b)
      have ec : rd_dr keep d b st (16 * d + b) = st (16 * d + b) := ecol d hd
      have es : aH (nI (16 * d + b)).toNatClampNeg = qt_m (st (16 * d + b)) := by rw [hcc, H _ hc, ec]
      have skip : ¬ (st (16 * d + b) ≠ 0 ∧ keep b = false) → wY_tend_47 post (nI d) f_active f_epoch n (nI (rd_cn (fun b => decide (st (16 * d + b) ≠ 0 ∧ keep b = false)) b)) (nI (b + 1)) a_nodeUp a_journalUp a_masterUp a_touch a_log a_many a_promise a_base aH a_units a_unit a_sort a_placeOf a_client a_rowLength a_row a_closedWith a_stampOf := by
        intro z
        have := ih n (b + 1) (by omega) (by omega) aH (fun c hc' => by
          have e : rd_dr keep d (b + 1) st c = rd_dr keep d b st c := by
            rw [rd_drS hb16]
            split
            · rename_i w
              rw [w.1, ec]
              by_cases y : st (16 * d + b) = 0
              · exact y.symm
              · exact absurd ⟨y, w.2⟩ z
            · rfl
          rw [e]; exact H c hc')
        rw [rd_cnF (f := fun b => decide (st (16 * d + b) ≠ 0 ∧ keep b = false)) (decide_eq_false z)] at this
        exact this
      have hbd : rd_bd (nu, rd_dr keep d b st, un, ua) := ⟨fun c hc => rd_drB (hb.1 c hc), hb.2⟩
      have hDb : sy_D (nu, rd_dr keep d b st, un, ua) (f_active, f_epoch, a_nodeUp, a_journalUp, a_masterUp, a_touch, a_log, a_many, a_promise, a_base, aH, a_units, a_unit, a_sort, a_placeOf, a_client, a_rowLength, a_row, a_closedWith, a_stampOf) := ⟨d1, H, d3, d4⟩
      have eg : rd_g nu (rd_dr keep d b st) b (qt_sp T b) d = rd_g nu st b (qt_sp T b) d := rd_gC ecol hd
      have s74 : keep b = false → wY_tend_74 post (wY_tend_47 post (nI d) f_active f_epoch n) (nI d) (nI (rd_cn (fun b => decide (st (16 * d + b) ≠ 0 ∧ keep b = false)) b)) (nI b) f_active f_epoch a_nodeUp a_journalUp a_masterUp a_touch a_log a_many a_promise a_base aH a_units a_unit a_sort a_placeOf a_client a_rowLength a_row a_closedWith a_stampOf := by
        intro kf
        refine br_t rfl ?_
        rw [show 16 * nI d + nI b = nI (16 * d + b) from mu_l d 16 b, es]
        refine ⟨hv, cd_if (qt_Nm (s := 0) (by omega) (by decide)) (fun z => ⟨hv, nm_e ?_⟩) (fun z => nm_r (nI_1 b) (skip (fun y => by omega)))⟩
        refine nm_r (rd_cnT (f := fun b => decide (st (16 * d + b) ≠ 0 ∧ keep b = false)) (decide_eq_true ⟨by omega, kf⟩)) (nm_r (nI_1 b) (ih n (b + 1) (by omega) (by omega) _ (fun c hc' => ?_)))
        rw [hcc, rd_drS hb16]
        by_cases w : c = 16 * d + b
        · subst w
          rw [pk_us, if_pos (c := 16 * d + b = 16 * d + b ∧ keep b = false) ⟨rfl, kf⟩, qt_m0]
        · rw [pk_un w, if_neg (c := c = 16 * d + b ∧ keep b = false) (fun q => w q.1)]; exact H c hc'
      have kf0 : ¬ (qt_in (qt_rl T) (qt_ro T) b ∧ rd_g nu st b (qt_sp T b) d = true) → keep b = false := by
        intro y
        cases hh : keep b with
        | false => rfl
        | true => exact absurd ((hk b).mp hh) y
      refine br_f (lb_f hb16) (ym_inRow (v := (f_active, f_epoch, a_nodeUp, a_journalUp, a_masterUp, a_touch, a_log, a_many, a_promise, a_base, aH, a_units, a_unit, a_sort, a_placeOf, a_client, a_rowLength, a_row, a_closedWith, a_stampOf)) h' hI hb16 (fun y1 => br_f bo_1 (ym_isGood (v := (f_active, f_epoch, a_nodeUp, a_journalUp, a_masterUp, a_touch, a_log, a_many, a_promise, a_base, aH, a_units, a_unit, a_sort, a_placeOf, a_client, a_rowLength, a_row, a_closedWith, a_stampOf)) h' hI hDb hbd hb16 y1 hd (fun y2 => br_f bo_1 (br_f bo_1 (nm_r (nI_1 b) (skip (fun x => ?_))))) (fun y2 => br_t rfl (s74 (kf0 (fun x => ?_)))))) (fun y1 => br_t rfl (s74 (kf0 (fun x => y1 x.1)))))
      · rw [eg] at y2
        rw [(hk b).mpr ⟨y1, y2⟩] at x
        exact absurd x.2 (by decide)
      · rw [eg] at y2
        exact absurd (y2.symm.trans x.2) (by decide)
  refine ⟨17, key 16 17 0 (by omega) (by omega) _ (fun c hc => ?_)⟩
  rw [rd_dr0]; exact d2 c hc
end
