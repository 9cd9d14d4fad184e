/-! takeover: the reference, and both -/
section
variable {T : qt_T} {mu ju : Nat → Bool} {ac ep : Nat} {to : Nat → Bool} {pr ba le : Nat → Nat} {lg : Nat → Nat → qt_R} {nu : Nat → Bool} {st un : Nat → Nat} {ua : Nat → Int32}
def tk_d (bd : Nat → Nat) (lf : Nat → Nat → qt_R) (s t k : Nat) (aG : Nat → Int64) : Prop :=
  (∀ j q, j < 3 → q < bd j → (j ≠ t ∨ k ≤ q) → aG (1001 * j + q) = lN (qt_pk (lf j q))) ∧ (∀ q, q < k → aG (1001 * t + q) = lN (qt_pk (lf s q)))
theorem ym_followLoop {bd : Nat → Nat} {lf : Nat → Nat → qt_R} {s t : Nat} (hs : s < 3) (ht : t < 3) (hbd : ∀ j, j < 3 → bd j ≤ 1000) {post : SY → Prop} {f_active f_epoch : Int32} {a_nodeUp a_journalUp a_masterUp a_touch a_many a_promise a_base a_stamp a_units a_unit a_sort a_placeOf a_client a_rowLength a_row a_closedWith a_stampOf : Nat → Int32} (hms : a_many s = nI (bd s))
    (hp : ∀ aG : Nat → Int64, tk_d bd lf s t (bd s) aG → post (f_active, f_epoch, a_nodeUp, a_journalUp, a_masterUp, a_touch, aG, a_many, a_promise, a_base, a_stamp, a_units, a_unit, a_sort, a_placeOf, a_client, a_rowLength, a_row, a_closedWith, a_stampOf)) :
    ∀ m n k, k + m = bd s → m < n → ∀ aG : Nat → Int64, tk_d bd lf s t k aG → wY_follow_36 post (nI t) (nI s) f_active f_epoch n (nI k) a_nodeUp a_journalUp a_masterUp a_touch aG a_many a_promise a_base a_stamp a_units a_unit a_sort a_placeOf a_client a_rowLength a_row a_closedWith a_stampOf := by
  have hb := hbd s hs
  have hvs := vp_in_nI hs (by decide : 3 < 2 ^ 31)
  intro m
  induction m with
  | zero =>
    intro n k hk hn aG H
    obtain ⟨n, rfl⟩ : ∃ n', n = n' + 1 := ⟨n - 1, by omega⟩
    have e : k = bd s := by omega
    subst e
    exact ⟨hvs, br_t ((cd_ge hms (by omega) (by omega) (by omega)).mpr (Nat.le_refl _)) (hp aG H)⟩
  | succ m ih =>
    intro n k hk hn aG H
    obtain ⟨n, rfl⟩ : ∃ n', n = n' + 1 := ⟨n - 1, by omega⟩
    refine ⟨hvs, br_f ((not_congr (cd_ge hms (by omega) (by omega) (by omega))).mpr (by omega)) ?_⟩
    rw [show 1001 * nI s + nI k = nI (1001 * s + k) from mu_l s 1001 k, show 1001 * nI t + nI k = nI (1001 * t + k) from mu_l t 1001 k]
    refine ⟨vp_in_nI (by omega) (by decide), vp_in_nI (by omega) (by decide), nm_e (nm_r (nI_1 k) ?_)⟩
    rw [nI_clamp (n := 1001 * s + k) (by omega), nI_clamp (n := 1001 * t + k) (by omega)]
    refine ih n (k + 1) (by omega) (by omega) _ ⟨fun j q hj hq ho => ?_, fun q hq => ?_⟩
    · have hq2 := hbd j hj
      rw [pk_uLn (by omega)]
      exact H.1 j q hj hq (by omega)
    · by_cases z : q = k
      · subst z
        rw [pk_uLs]
        exact H.1 s q hs (by omega) (by omega)
      · rw [pk_uLn (by omega)]
        exact H.2 q (by omega)
def tk_y (i s E : Nat) (ju to : Nat → Bool) (pr ba le : Nat → Nat) (lg : Nat → Nat → qt_R) (aI aP aB aN : Nat → Int32) (aG : Nat → Int64) : Prop :=
  (∀ j, j < 3 → aI j = bo_p (if j < i then ju j else to j)) ∧ (∀ j, j < 3 → aP j = nI (if j < i ∧ ju j = true then E else pr j)) ∧ (∀ j, j < 3 → aB j = nI (tk_f i s ju ba j)) ∧ (∀ j, j < 3 → aN j = nI (tk_f i s ju le j))
    ∧ (∀ j q, j < 3 → q < tk_f i s ju le j → aG (1001 * j + q) = lN (qt_pk (tk_f i s ju lg j q)))
theorem ym_takeLoop {v : SY} (hL : sy_L (mu, ju, ac, ep, to, pr, ba, le, lg) v) (hD : sy_D (nu, st, un, ua) v) {s E m0 : Nat} (hs : s < 3) (hw : ∀ j, j < 3 → qt_wf (lg j) (le j) ∧ le j ≤ 1000) {post : Int32 → SY → Prop}
    (hp : ∀ v', sy_L (mu, ju, m0 + 1, E, ju, (fun j => if ju j = true then E else pr j), (fun j => if ju j = true then ba s else ba j), (fun j => if ju j = true then le s else le j), (fun j => if ju j = true then lg s else lg j)) v' → sy_D (nu, st, un, ua) v' → post (nI E) v') :
    ∀ f_active f_epoch a_nodeUp a_journalUp a_masterUp a_touch a_log a_many a_promise a_base a_stamp a_units a_unit a_sort a_placeOf a_client a_rowLength a_row a_closedWith a_stampOf, v = (f_active, f_epoch, a_nodeUp, a_journalUp, a_masterUp, a_touch, a_log, a_many, a_promise, a_base, a_stamp, a_units, a_unit, a_sort, a_placeOf, a_client, a_rowLength, a_row, a_closedWith, a_stampOf) → ∃ n, wY_takeover_115 post (nI m0) (nI s) n 0 f_active (nI E) a_nodeUp a_journalUp a_masterUp a_touch a_log a_many a_promise a_base a_stamp a_units a_unit a_sort a_placeOf a_client a_rowLength a_row a_closedWith a_stampOf := by
  intro f_active f_epoch a_nodeUp a_journalUp a_masterUp a_touch a_log a_many a_promise a_base a_stamp a_units a_unit a_sort a_placeOf a_client a_rowLength a_row a_closedWith a_stampOf ev
  subst ev
  obtain ⟨l1, l2, l3, l4, l5, l6, l7, l8, l9⟩ := hL
  obtain ⟨d1, d2, d3, d4⟩ := hD
  have hbd : ∀ i j, j < 3 → tk_f i s ju le j ≤ 1000 := by
    intro i j hj
    unfold tk_f
    split
    · exact (hw s hs).2
    · exact (hw j hj).2
  have key : ∀ m n i, i + m = 3 → m < n → ∀ (aI aP aB aN : Nat → Int32) (aG : Nat → Int64), tk_y i s E ju to pr ba le lg aI aP aB aN aG → wY_takeover_115 post (nI m0) (nI s) n (nI i) f_active (nI E) a_nodeUp a_journalUp a_masterUp aI aG aN aP aB a_stamp a_units a_unit a_sort a_placeOf a_client a_rowLength a_row a_closedWith a_stampOf := by
    intro m
    induction m with
    | zero =>
      intro n i hi hn aI aP aB aN aG H
      obtain ⟨n, rfl⟩ : ∃ n', n = n' + 1 := ⟨n - 1, by omega⟩
      have e : i = 3 := by omega
      subst e
      obtain ⟨t1, t2, t3, t4, t5⟩ := H
      refine br_t lb_t (hp _ ⟨(qt_ms m0).symm, rfl, l3, l4, ?_, ?_, ?_, ?_, ?_⟩ ⟨d1, d2, d3, d4⟩)
      · intro j hj; rw [t1 j hj, if_pos hj]
      · intro j hj
        rw [t2 j hj]
        dsimp only
        by_cases z : ju j = true
        · rw [if_pos ⟨hj, z⟩, if_pos z]
        · rw [if_neg (fun y => z y.2), if_neg z]
      · intro j hj; rw [t3 j hj, tk_3 hj]
      · intro j hj; rw [t4 j hj, tk_3 hj]
      · intro j q hj hq
        have := t5 j q hj (by rw [tk_3 hj]; exact hq)
        rw [tk_3 hj] at this
        exact this
    | succ m ih =>
      intro n i hi hn aI aP aB aN aG H
      obtain ⟨n, rfl⟩ : ∃ n', n = n' + 1 := ⟨n - 1, by omega⟩
      have hi3 : i < 3 := by omega
      have hv := vp_in_nI hi3 (by decide : 3 < 2 ^ 31)
      have hvs := vp_in_nI hs (by decide : 3 < 2 ^ 31)
      have hc : (nI i).toNatClampNeg = i := nI_clamp (by omega)
      have hcs : (nI s).toNatClampNeg = s := nI_clamp (by omega)
      obtain ⟨t1, t2, t3, t4, t5⟩ := H
      have hT1 : ∀ j, j < 3 → upd aI i (bo_p (ju i)) j = bo_p (if j < i + 1 then ju j else to j) := by
        intro j hj
        by_cases z : j = i
        · subst z; rw [pk_us, if_pos (by omega)]
        · rw [pk_un z, t1 j hj]
          by_cases y : j < i
          · rw [if_pos y, if_pos (by omega)]
          · rw [if_neg y, if_neg (by omega)]
      refine br_f (lb_f hi3) ⟨hv, hv, nm_e ⟨hv, ?_⟩⟩
      rw [hc, l3 i hi3, bo_vp]
      refine cd_if bo_p0 (fun hu' => nm_r (nI_1 i) (ih n (i + 1) (by omega) (by omega) _ _ _ _ _ ⟨hT1, ?_, ?_, ?_, ?_⟩)) (fun hu => ?_)
      · intro j hj
        rw [t2 j hj]
        by_cases y : j < i ∧ ju j = true
        · rw [if_pos y, if_pos ⟨by omega, y.2⟩]
        · rw [if_neg y, if_neg]
          intro w
          by_cases z : j = i
          · rw [z, hu'] at w; exact absurd w.2 (by decide)
          · exact y ⟨by omega, w.2⟩
      · intro j hj
        rw [tk_n (by by_cases z : j = i; exact Or.inr (by rw [z]; exact hu'); exact Or.inl z)]; exact t3 j hj
      · intro j hj
        rw [tk_n (by by_cases z : j = i; exact Or.inr (by rw [z]; exact hu'); exact Or.inl z)]; exact t4 j hj
      · intro j q hj hq
        have e : ∀ {α : Type} (f : Nat → α), tk_f (i + 1) s ju f j = tk_f i s ju f j := fun f => tk_n (by by_cases z : j = i; exact Or.inr (by rw [z]; exact hu'); exact Or.inl z)
        rw [e] at hq ⊢
        exact t5 j q hj hq
      · have hu : ju i = true := by simpa using hu
        refine ⟨hv, nm_e ⟨hvs, hv, nm_e ⟨hvs, hv, nm_e ?_⟩⟩⟩
        rw [hc, hcs, t4 s hs, t3 s hs, tk_s, tk_s]
        have hms : upd aN i (nI (le s)) s = nI (tk_f i s ju le s) := by
          by_cases z : s = i
          · subst z; rw [pk_us, tk_s]
          · rw [pk_un z]; exact t4 s hs
        refine ⟨tk_f i s ju le s + 1, ym_followLoop (bd := tk_f i s ju le) (lf := tk_f i s ju lg) hs hi3 (hbd i) hms ?_ (tk_f i s ju le s) _ 0 (by omega) (by omega) aG ⟨fun j q hj hq _ => t5 j q hj hq, fun q hq => by omega⟩⟩
        intro bG HC
        refine nm_r (nI_1 i) (ih n (i + 1) (by omega) (by omega) _ _ _ _ _ ⟨hT1, ?_, ?_, ?_, ?_⟩)
        · intro j hj
          by_cases z : j = i
          · subst z; rw [pk_us, if_pos ⟨by omega, hu⟩]
          · rw [pk_un z, t2 j hj]
            by_cases y : j < i ∧ ju j = true
            · rw [if_pos y, if_pos ⟨by omega, y.2⟩]
            · rw [if_neg y, if_neg (fun w => y ⟨by omega, w.2⟩)]
        · intro j hj
          by_cases z : j = i
          · subst z; rw [pk_us, tk_t hu]
          · rw [pk_un z, tk_n (Or.inl z)]; exact t3 j hj
        · intro j hj
          by_cases z : j = i
          · subst z; rw [pk_us, tk_t hu]
          · rw [pk_un z, tk_n (Or.inl z)]; exact t4 j hj
        · intro j q hj hq
          by_cases z : j = i
          · subst z
            rw [tk_t hu] at hq ⊢
            have := HC.2 q (by rw [tk_s]; exact hq)
            rw [tk_s] at this
            exact this
          · rw [tk_n (Or.inl z)] at hq ⊢
            exact HC.1 j q hj hq (Or.inl z)
  refine ⟨4, key 3 4 0 (by omega) (by omega) _ _ _ _ _ ⟨?_, ?_, ?_, ?_, ?_⟩⟩
  · intro j hj; rw [if_neg (by omega)]; exact l5 j hj
  · intro j hj; rw [if_neg (by omega)]; exact l6 j hj
  · intro j hj; rw [tk_0]; exact l7 j hj
  · intro j hj; rw [tk_0]; exact l8 j hj
  · intro j q hj hq
    rw [tk_0] at hq ⊢
    exact l9 j q hj hq
theorem ym_takeover {v : SY} (hL : sy_L (mu, ju, ac, ep, to, pr, ba, le, lg) v) (hD : sy_D (nu, st, un, ua) v) (hpr : ∀ j, j < 3 → pr j ≤ 512) (hw : ∀ j, j < 3 → qt_wf (lg j) (le j) ∧ le j ≤ 1000) {post : Int32 → SY → Prop} {p : Int32} {m : Nat} (hm : ix_c p 2 m)
    (h0 : ¬ (m < 2 ∧ mu m = true ∧ 2 ≤ rd_cn ju 3) → post (-2) v)
    (h1 : m < 2 → mu m = true → 2 ≤ rd_cn ju 3 → ∀ v', sy_L (lj_tk (mu, ju, ac, ep, to, pr, ba, le, lg) m) v' → sy_D (nu, st, un, ua) v' → post (nI (lj_gp ju pr 3 + 1)) v') : wpY_takeover post v p := by
  obtain ⟨f_active, f_epoch, a_nodeUp, a_journalUp, a_masterUp, a_touch, a_log, a_many, a_promise, a_base, a_stamp, a_units, a_unit, a_sort, a_placeOf, a_client, a_rowLength, a_row, a_closedWith, a_stampOf⟩ := v
  unfold wpY_takeover
  refine ym_in hm (by decide) rfl (fun hlt => br_f bo_1 ?_) (fun e => br_t rfl (h0 (fun z => by omega)))
  have e := ix_i hm hlt
  subst e
  refine ⟨vp_in_nI hlt (by decide), cd_if (cd_p (hL.2.2.2.1 m hlt) (by omega)) (fun z => h0 (fun y => absurd (z.symm.trans y.2.1) (by decide))) (fun z => ?_)⟩
  have zm : mu m = true := by simpa using z
  refine ⟨4, lq_f (fun n d (s : Int32 × Int32 × Int32) => wY_takeover_30 post (nI m) f_active f_epoch a_nodeUp a_journalUp a_masterUp a_touch a_log a_many a_promise a_base a_stamp a_units a_unit a_sort a_placeOf a_client a_rowLength a_row a_closedWith a_stampOf n s.1 s.2.1 s.2.2 (nI d)) 3 (fun d => (nI (rd_cn ju d), qt_m (lj_bt (lj_B le lg) ju d), nI (lj_gp ju pr d))) (fun n => br_t lb_t ?_) (fun n d hd H => ?_) 4 0 (by omega) (by omega)⟩
  · have hcn := rd_cnL ju 3
    refine cd_if (nI_leI (a := 2) (by decide) (by omega)) (fun y => nm_r (nI_1 _) ?_) (fun y => h0 (fun x => y x.2.2))
    obtain ⟨s1, s2, s3⟩ := lj_sP (le := le) (lg := lg) (lj_cn2 y)
    show ∃ n, wY_takeover_115 post (nI m) (qt_m (lj_bt (lj_B le lg) ju 3)) n 0 f_active (nI (lj_gp ju pr 3 + 1)) a_nodeUp a_journalUp a_masterUp a_touch a_log a_many a_promise a_base a_stamp a_units a_unit a_sort a_placeOf a_client a_rowLength a_row a_closedWith a_stampOf
    rw [s3, qt_ms]
    exact ym_takeLoop (v := (f_active, f_epoch, a_nodeUp, a_journalUp, a_masterUp, a_touch, a_log, a_many, a_promise, a_base, a_stamp, a_units, a_unit, a_sort, a_placeOf, a_client, a_rowLength, a_row, a_closedWith, a_stampOf)) hL hD s1 hw (h1 hlt zm y) _ _ _ _ _ _ _ _ _ _ _ _ _ _ _ _ _ _ _ _ rfl
  · have hg := lj_gpB (ju := ju) hpr (n := d) (by omega)
    have hp1 := hpr d hd
    have hbl : lj_bt (lj_B le lg) ju d ≤ d := by rcases lj_btP (B := lj_B le lg) (ju := ju) (n := d) with y | y <;> omega
    have ep1 : a_promise (nI d).toNatClampNeg = nI (pr d) := by rw [nI_clamp (by omega)]; exact hL.2.2.2.2.2.1 d hd
    have H' : wY_takeover_30 post (nI m) f_active f_epoch a_nodeUp a_journalUp a_masterUp a_touch a_log a_many a_promise a_base a_stamp a_units a_unit a_sort a_placeOf a_client a_rowLength a_row a_closedWith a_stampOf n (nI (rd_cn ju (d + 1))) (qt_m (lj_bt (lj_B le lg) ju (d + 1))) (nI (lj_gp ju pr (d + 1))) (nI (d + 1)) := H
    refine br_f (lb_f hd) ⟨vp_in_nI hd (by decide), cd_if (cd_p (hL.2.2.1 d hd) (by omega)) (fun z => nm_r (nI_1 d) ?_) (fun z => ?_)⟩
    · rw [lj_btS, lj_gpS, rd_cnF z, if_neg (fun w => absurd (z.symm.trans w.1) (by decide)), if_neg (fun w => absurd (z.symm.trans w.1) (by decide))] at H'
      exact H'
    · have z' : ju d = true := by simpa using z
      have s73 : ∀ g, lj_gp ju pr (d + 1) = g → wY_takeover_73 post (wY_takeover_30 post (nI m) f_active f_epoch a_nodeUp a_journalUp a_masterUp a_touch a_log a_many a_promise a_base a_stamp a_units a_unit a_sort a_placeOf a_client a_rowLength a_row a_closedWith a_stampOf n) (nI m) (nI (rd_cn ju (d + 1))) (qt_m (lj_bt (lj_B le lg) ju d)) (nI g) (nI d) f_active f_epoch a_nodeUp a_journalUp a_masterUp a_touch a_log a_many a_promise a_base a_stamp a_units a_unit a_sort a_placeOf a_client a_rowLength a_row a_closedWith a_stampOf := by
        intro g hgg
        rw [hgg, lj_btS] at H'
        refine cd_if (qt_mZ (by omega)) (fun y => nm_r (nI_1 d) ?_) (fun y => ?_)
        · rw [if_pos ⟨z', Or.inl y⟩, qt_ms] at H'; exact H'
        · obtain ⟨i, hi⟩ : ∃ i, lj_bt (lj_B le lg) ju d = i + 1 := ⟨lj_bt (lj_B le lg) ju d - 1, by omega⟩
          rw [hi] at H' hbl ⊢
          rw [qt_ms]
          refine ym_better (v := (f_active, f_epoch, a_nodeUp, a_journalUp, a_masterUp, a_touch, a_log, a_many, a_promise, a_base, a_stamp, a_units, a_unit, a_sort, a_placeOf, a_client, a_rowLength, a_row, a_closedWith, a_stampOf)) hL hw hd (by omega) (fun x => br_f bo_1 (nm_r (nI_1 d) ?_)) (fun x => br_t rfl (nm_r (nI_1 d) ?_))
          · rw [if_pos ⟨z', Or.inr x⟩, qt_ms] at H'; exact H'
          · rw [if_neg (fun w => by rcases w.2 with q | q; omega; exact absurd (x.symm.trans q) (by decide)), qt_ms] at H'; exact H'
      refine nm_r (rd_cnT z') ⟨vp_in_nI hd (by decide), ?_⟩
      rw [ep1]
      refine cd_if (nI_leI (by omega) (by omega)) (fun y => s73 _ ?_) (fun y => ⟨vp_in_nI hd (by decide), nm_e (s73 _ ?_)⟩)
      · rw [lj_gpS, if_neg (fun w => by omega)]
      · rw [lj_gpS, if_pos ⟨z', by omega⟩]
end
theorem i_vc_takeover {k : Nat} {u : SX} {v : SY} (I : i_Rel k u v) (hk : k + 4 ≤ 2048) (v1 : Int32) : wpX_takeover (fun r u' => wpY_takeover (fun r' v' => r' = r ∧ i_Rel (k + 4) u' v') v v1) u v1 := by
  have I' := i_up I
  obtain ⟨T, ⟨mu, ju, ac, ep, to, pr, ba, le, lg⟩, ⟨nu, st, un, ua⟩, h1, h2, h3, h4, h5, h6, h7, h8⟩ := I
  have he : ep ≤ 512 := rl_ep h7 (by omega)
  have i5 := h7.2.2.2.2.1
  have i3 := h7.2.2.1
  have hpr : ∀ j, j < 3 → pr j ≤ 512 := fun j hj => by have := i3 j hj; omega
  have hw : ∀ j, j < 3 → qt_wf (lg j) (le j) ∧ le j ≤ 1000 := fun j hj => ⟨(i5 j hj).1, (i5 j hj).2.2.2⟩
  have hlen := rl_len h7
  obtain ⟨m, hm⟩ := ix_e v1 (N := 2) (by decide)
  generalize hR : i_Rel (k + 4) = R at I'
  obtain ⟨f_active, f_epoch, a_dataNodeDown, a_journalDown, a_masterDown, a_inTouch, a_promise, a_base, a_logLength, a_logEpoch, a_logKind, a_logA, a_logB, a_logC, a_inodeState, a_inodePlace, a_inodeClient, a_closeUnits, a_rowLength, a_rowBlock, a_blockStamp, a_replicaHeld, a_replicaStamp, a_unitCount, a_unitValue⟩ := u
  have bad : ¬ (m < 2 ∧ mu m = true ∧ 2 ≤ rd_cn ju 3) → wpY_takeover (fun r' v' => r' = -2 ∧ R (f_active, f_epoch, a_dataNodeDown, a_journalDown, a_masterDown, a_inTouch, a_promise, a_base, a_logLength, a_logEpoch, a_logKind, a_logA, a_logB, a_logC, a_inodeState, a_inodePlace, a_inodeClient, a_closeUnits, a_rowLength, a_rowBlock, a_blockStamp, a_replicaHeld, a_replicaStamp, a_unitCount, a_unitValue) v') v v1 := fun z => ym_takeover h4 h5 hpr hw hm (fun _ => ⟨rfl, I'⟩) (fun a b c => absurd ⟨a, b, c⟩ z)
  refine ix_t hm rfl (by decide) (fun hlt e => ?_) (fun e => bad (fun z => by omega))
  subst e
  have hcn := rd_cnL ju 3
  refine ⟨vp_in_nI hlt (by decide), cd_if (cd_n (h2.2.2.2.1 m hlt) (by omega)) (fun z => ?_) (fun z => bad (fun y => z y.2.1))⟩
  refine xm_countUp (u := (f_active, f_epoch, a_dataNodeDown, a_journalDown, a_masterDown, a_inTouch, a_promise, a_base, a_logLength, a_logEpoch, a_logKind, a_logA, a_logB, a_logC, a_inodeState, a_inodePlace, a_inodeClient, a_closeUnits, a_rowLength, a_rowBlock, a_blockStamp, a_replicaHeld, a_replicaStamp, a_unitCount, a_unitValue)) h2 (cd_if (nI_leI (a := 2) (by decide) (by omega)) (fun y => ?_) (fun y => bad (fun x => y x.2.2)))
  refine xm_greatest (u := (f_active, f_epoch, a_dataNodeDown, a_journalDown, a_masterDown, a_inTouch, a_promise, a_base, a_logLength, a_logEpoch, a_logKind, a_logA, a_logB, a_logC, a_inodeState, a_inodePlace, a_inodeClient, a_closeUnits, a_rowLength, a_rowBlock, a_blockStamp, a_replicaHeld, a_replicaStamp, a_unitCount, a_unitValue)) h2 hpr (nm_r (nI_1 _) ?_)
  obtain ⟨l1, l2, l3, l4, l5, l6, l7, l8, l9⟩ := h2
  have hLE : sx_L (mu, ju, ac, lj_gp ju pr 3 + 1, to, pr, ba, le, lg) (f_active, (nI (lj_gp ju pr 3 + 1)), a_dataNodeDown, a_journalDown, a_masterDown, a_inTouch, a_promise, a_base, a_logLength, a_logEpoch, a_logKind, a_logA, a_logB, a_logC, a_inodeState, a_inodePlace, a_inodeClient, a_closeUnits, a_rowLength, a_rowBlock, a_blockStamp, a_replicaHeld, a_replicaStamp, a_unitCount, a_unitValue) := ⟨l1, rfl, l3, l4, l5, l6, l7, l8, l9⟩
  refine xm_best (u := (f_active, (nI (lj_gp ju pr 3 + 1)), a_dataNodeDown, a_journalDown, a_masterDown, a_inTouch, a_promise, a_base, a_logLength, a_logEpoch, a_logKind, a_logA, a_logB, a_logC, a_inodeState, a_inodePlace, a_inodeClient, a_closeUnits, a_rowLength, a_rowBlock, a_blockStamp, a_replicaHeld, a_replicaStamp, a_unitCount, a_unitValue)) hLE hw ?_
  obtain ⟨s1, s2, s3⟩ := lj_sP (le := le) (lg := lg) (lj_cn2 y)
  rw [s3, qt_ms]
  obtain ⟨t1, t2⟩ := lj_tkI (m := m) h7 hlt y
  refine xm_takeLoop (u := (f_active, f_epoch, a_dataNodeDown, a_journalDown, a_masterDown, a_inTouch, a_promise, a_base, a_logLength, a_logEpoch, a_logKind, a_logA, a_logB, a_logC, a_inodeState, a_inodePlace, a_inodeClient, a_closeUnits, a_rowLength, a_rowBlock, a_blockStamp, a_replicaHeld, a_replicaStamp, a_unitCount, a_unitValue)) h1 ⟨l1, l2, l3, l4, l5, l6, l7, l8, l9⟩ h3 s1 hlt hw s2 ?_ _ _ _ _ _ _ _ _ _ _ _ _ _ _ _ _ _ _ _ _ _ _ _ _ _ rfl
  intro u' g1 g2 g3
  refine ym_takeover h4 h5 hpr hw hm (fun x => absurd ⟨hlt, z, y⟩ x) (fun _ _ _ v' m1 m2 => ⟨rfl, ?_⟩)
  rw [← hR]
  refine ⟨_, lj_tk (mu, ju, ac, ep, to, pr, ba, le, lg) m, _, g1, g2, g3, m1, m2, qt_ivAb (hw _ s1).1 (hw _ s1).2, t1, ⟨fun c hc => ?_, h8.2⟩⟩
  have h8c := h8.1 c hc
  have hac : 0 < lj_ac (lj_tk (mu, ju, ac, ep, to, pr, ba, le, lg) m) := Nat.succ_pos m
  rw [if_pos hac, t2]
  have e1 : lj_ep (mu, ju, ac, ep, to, pr, ba, le, lg) = ep := rfl
  split at h8c <;> omega
