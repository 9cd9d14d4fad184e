/-! fold -/
section
variable {T : qt_T} {mu ju : Nat → Bool} {ac ep : Nat} {to : Nat → Bool} {pr ba le : Nat → Nat} {lg : Nat → Nat → qt_R} {nu : Nat → Bool} {st un : Nat → Nat} {ua : Nat → Int32}
theorem lj_nI {n : Nat} {j : Nat} (h : j < n) : lj_n n to ju j = (to j && ju j) := by unfold lj_n; simp [h]
theorem xm_fold {u : SX} (h : sx_T T u) (hL : sx_L (mu, ju, ac, ep, to, pr, ba, le, lg) u) (hD : sx_D (nu, st, un, ua) u) (ha : ac ≤ 2) {post : Int32 → SX → Prop} (h0 : ac = 0 → post (-1) u) (h1 : 0 < ac → ∀ u', sx_T T u' → sx_L (lj_fo (mu, ju, ac, ep, to, pr, ba, le, lg)) u' → sx_D (nu, st, un, ua) u' → post (nI (rd_cn (fun j => to j && ju j) 3)) u') : wpX_fold post u := by
  obtain ⟨f_active, f_epoch, a_dataNodeDown, a_journalDown, a_masterDown, a_inTouch, a_promise, a_base, a_logLength, a_logEpoch, a_logKind, a_logA, a_logB, a_logC, a_inodeState, a_inodePlace, a_inodeClient, a_closeUnits, a_rowLength, a_rowBlock, a_blockStamp, a_replicaHeld, a_replicaStamp, a_unitCount, a_unitValue⟩ := u
  obtain ⟨l1, l2, l3, l4, l5, l6, l7, l8, l9⟩ := hL
  obtain ⟨d1, d2, d3, d4, d5⟩ := hD
  have h' : qt_ag True T a_inodeState a_inodePlace a_inodeClient a_closeUnits a_rowLength a_rowBlock a_blockStamp := h
  refine cd_if (show f_active = -1 ↔ ac = 0 by rw [show f_active = qt_m ac from l1, qt_m0E (by omega)]) h0 (fun za => ?_)
  have key : ∀ m n i, i + m = 3 → m < n → ∀ aB : Nat → Int32, (∀ j, j < 3 → aB j = nI (if lj_n i to ju j = true then le j else ba j)) → wX_fold_14 post f_active f_epoch n (nI (rd_cn (fun j => to j && ju j) i)) (nI i) a_dataNodeDown a_journalDown a_masterDown a_inTouch a_promise aB a_logLength a_logEpoch a_logKind a_logA a_logB a_logC a_inodeState a_inodePlace a_inodeClient a_closeUnits a_rowLength a_rowBlock a_blockStamp a_replicaHeld a_replicaStamp a_unitCount a_unitValue := by
    intro m
    induction m with
    | zero =>
      intro n i hi hn aB H
      obtain ⟨n, rfl⟩ : ∃ n', n = n' + 1 := ⟨n - 1, by omega⟩
      have e : i = 3 := by omega
      subst e
      refine br_t lb_t (h1 (by omega) _ h' ⟨l1, l2, l3, l4, l5, l6, ?_, l8, l9⟩ ⟨d1, d2, d3, d4, d5⟩)
      intro j hj
      have := H j hj
      rw [lj_ifT hj] at this
      exact this
    | succ m ih =>
      intro n i hi hn aB H
      obtain ⟨n, rfl⟩ : ∃ n', n = n' + 1 := ⟨n - 1, by omega⟩
      have hi3 : i < 3 := by omega
      have hv := vp_in_nI hi3 (by decide : 3 < 2 ^ 31)
      have hc : (nI i).toNatClampNeg = i := nI_clamp (by omega)
      have skip : (to i && ju i) = false → wX_fold_14 post f_active f_epoch n (nI (rd_cn (fun j => to j && ju j) i)) (nI (i + 1)) a_dataNodeDown a_journalDown a_masterDown a_inTouch a_promise aB a_logLength a_logEpoch a_logKind a_logA a_logB a_logC a_inodeState a_inodePlace a_inodeClient a_closeUnits a_rowLength a_rowBlock a_blockStamp a_replicaHeld a_replicaStamp a_unitCount a_unitValue := by
        intro hf
        have := ih n (i + 1) (by omega) (by omega) aB (fun j hj => by
          have hz : lj_n (i + 1) to ju j = lj_n i to ju j := by
            by_cases e : j = i
            · subst e; unfold lj_n; rw [hf]; simp
            · exact lj_nS e
          rw [hz]; exact H j hj)
        rw [rd_cnF (f := fun j => to j && ju j) hf] at this
        exact this
      refine br_f (lb_f hi3) ⟨hv, cd_if (cd_p (l5 i hi3) (by omega)) (fun z => nm_r (nI_1 i) (skip (by rw [z]; rfl))) (fun z => ⟨hv, cd_if (cd_n (l3 i hi3) (by omega)) (fun hu => ⟨hv, hv, nm_e ?_⟩) (fun hu => nm_r (nI_1 i) (skip (by rw [show ju i = false by simpa using hu]; cases to i <;> rfl)))⟩)⟩
      have hf : (to i && ju i) = true := by rw [hu, show to i = true by simpa using z]; rfl
      refine nm_r (rd_cnT (f := fun j => to j && ju j) hf) (nm_r (nI_1 i) (ih n (i + 1) (by omega) (by omega) _ (fun j hj => ?_)))
      rw [hc, l8 i hi3]
      by_cases y : j = i
      · subst y
        rw [pk_us, lj_nI (by omega), if_pos hf]
      · rw [pk_un y, lj_nS y]; exact H j hj
  refine ⟨4, key 3 4 0 (by omega) (by omega) _ (fun j hj => ?_)⟩
  rw [show lj_n 0 to ju j = false by unfold lj_n; simp]; exact l7 j hj
theorem ym_fold {v : SY} (hL : sy_L (mu, ju, ac, ep, to, pr, ba, le, lg) v) (hD : sy_D (nu, st, un, ua) v) (ha : ac ≤ 2) {post : Int32 → SY → Prop} (h0 : ac = 0 → post (-1) v) (h1 : 0 < ac → ∀ v', sy_L (lj_fo (mu, ju, ac, ep, to, pr, ba, le, lg)) v' → sy_D (nu, st, un, ua) v' → post (nI (rd_cn (fun j => to j && ju j) 3)) v') : wpY_fold post v := by
  obtain ⟨f_active, f_epoch, a_nodeUp, a_journalUp, a_masterUp, a_touch, a_log, a_many, a_promise, a_base, a_stamp, a_units, a_unit, a_sort, a_placeOf, a_client, a_rowLength, a_row, a_closedWith, a_stampOf⟩ := v
  obtain ⟨l1, l2, l3, l4, l5, l6, l7, l8, l9⟩ := hL
  obtain ⟨d1, d2, d3, d4⟩ := hD
  refine cd_if (show 0 ≤ f_active ↔ 0 < ac by rw [show f_active = qt_m ac from l1]; exact qt_Nm (s := 0) (by omega) (by decide)) (fun za => ?_) (fun za => h0 (by omega))
  have key : ∀ m n i, i + m = 3 → m < n → ∀ aB : Nat → Int32, (∀ j, j < 3 → aB j = nI (if lj_n i to ju j = true then le j else ba j)) → wY_fold_13 post f_active f_epoch n (nI (rd_cn (fun j => to j && ju j) i)) (nI i) a_nodeUp a_journalUp a_masterUp a_touch a_log a_many a_promise aB a_stamp a_units a_unit a_sort a_placeOf a_client a_rowLength a_row a_closedWith a_stampOf := by
    intro m
    induction m with
    | zero =>
      intro n i hi hn aB H
      obtain ⟨n, rfl⟩ : ∃ n', n = n' + 1 := ⟨n - 1, by omega⟩
      have e : i = 3 := by omega
      subst e
      refine br_t lb_t (h1 za _ ⟨l1, l2, l3, l4, l5, l6, ?_, l8, l9⟩ ⟨d1, d2, d3, d4⟩)
      intro j hj
      have := H j hj
      rw [lj_ifT hj] at this
      exact this
    | succ m ih =>
      intro n i hi hn aB H
      obtain ⟨n, rfl⟩ : ∃ n', n = n' + 1 := ⟨n - 1, by omega⟩
      have hi3 : i < 3 := by omega
      have hv := vp_in_nI hi3 (by decide : 3 < 2 ^ 31)
      have hc : (nI i).toNatClampNeg = i := nI_clamp (by omega)
      have skip : (to i && ju i) = false → wY_fold_13 post f_active f_epoch n (nI (rd_cn (fun j => to j && ju j) i)) (nI (i + 1)) a_nodeUp a_journalUp a_masterUp a_touch a_log a_many a_promise aB a_stamp a_units a_unit a_sort a_placeOf a_client a_rowLength a_row a_closedWith a_stampOf := by
        intro hf
        have := ih n (i + 1) (by omega) (by omega) aB (fun j hj => by
          have hz : lj_n (i + 1) to ju j = lj_n i to ju j := by
            by_cases e : j = i
            · subst e; unfold lj_n; rw [hf]; simp
            · exact lj_nS e
          rw [hz]; exact H j hj)
        rw [rd_cnF (f := fun j => to j && ju j) hf] at this
        exact this
      refine br_f (lb_f hi3) ⟨hv, cd_if (cd_p (l5 i hi3) (by omega)) (fun z => nm_r (nI_1 i) (skip (by rw [z]; rfl))) (fun z => ⟨hv, cd_if (cd_p (l3 i hi3) (by omega)) (fun hu => nm_r (nI_1 i) (skip (by rw [hu]; cases to i <;> rfl))) (fun hu => ⟨hv, hv, nm_e ?_⟩)⟩)⟩
      have hf : (to i && ju i) = true := by rw [show ju i = true by simpa using hu, show to i = true by simpa using z]; rfl
      refine nm_r (rd_cnT (f := fun j => to j && ju j) hf) (nm_r (nI_1 i) (ih n (i + 1) (by omega) (by omega) _ (fun j hj => ?_)))
      rw [hc, l8 i hi3]
      by_cases y : j = i
      · subst y
        rw [pk_us, lj_nI (by omega), if_pos hf]
      · rw [pk_un y, lj_nS y]; exact H j hj
  refine ⟨4, key 3 4 0 (by omega) (by omega) _ (fun j hj => ?_)⟩
  rw [show lj_n 0 to ju j = false by unfold lj_n; simp]; exact l7 j hj
end
theorem i_vc_fold {k : Nat} {u : SX} {v : SY} (I : i_Rel k u v) (hk : k + 4 ≤ 2048) : wpX_fold (fun r u' => wpY_fold (fun r' v' => r' = r ∧ i_Rel (k + 4) u' v') v) u := by
  have I' := i_up I
  obtain ⟨T, ⟨mu, ju, ac, ep, to, pr, ba, le, lg⟩, ⟨nu, st, un, ua⟩, h1, h2, h3, h4, h5, h6, h7, h8⟩ := I
  refine xm_fold h1 h2 h3 h7.2.1 (fun z => ym_fold h4 h5 h7.2.1 (fun _ => ⟨rfl, I'⟩) (fun y => by omega)) (fun z u' g1 g2 g3 => ym_fold h4 h5 h7.2.1 (fun y => by omega) (fun y v' m1 m2 => ⟨rfl, T, _, _, g1, g2, g3, m1, m2, h6, lj_ivK (by omega) (lj_foI h7), ?_⟩))
  exact ⟨h8.1, h8.2⟩
