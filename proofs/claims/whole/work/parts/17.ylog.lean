/-! records: the reference -/
theorem qt_pkK {r : qt_R} (h : qt_rb r) : (lN (qt_pk r)).toInt32 &&& 7 = nI r.2.1 := by
  have hl := qt_pkL h
  rw [lN_i, pk_andN (by omega) 3 (by decide)]
  exact congrArg nI (qt_pkD h).1
theorem qt_pkA {r : qt_R} (h : qt_rb r) : (lN (qt_pk r) >>> ((3 : Int32).toInt64 &&& 63)).toInt32 &&& 31 = nI r.2.2.1 := by
  have hl := qt_pkL h
  have hd : qt_pk r / 2 ^ 3 ≤ qt_pk r := Nat.div_le_self _ _
  rw [pf_shr (d := 3) (by decide) (by omega), lN_i, pk_andN (by omega) 5 (by decide)]
  exact congrArg nI (qt_pkD h).2.1
theorem qt_pkB {r : qt_R} (h : qt_rb r) : (lN (qt_pk r) >>> ((8 : Int32).toInt64 &&& 63)).toInt32 &&& 255 = nI r.2.2.2.1 := by
  have hl := qt_pkL h
  have hd : qt_pk r / 2 ^ 8 ≤ qt_pk r := Nat.div_le_self _ _
  rw [pf_shr (d := 8) (by decide) (by omega), lN_i, pk_andN (by omega) 8 (by decide)]
  exact congrArg nI (qt_pkD h).2.2.1
theorem qt_pkC {r : qt_R} (h : qt_rb r) : ((lN (qt_pk r) >>> ((16 : Int32).toInt64 &&& 63)).toInt32 &&& 15) - 1 = qt_m r.2.2.2.2 := by
  have hl := qt_pkL h
  have hd : qt_pk r / 2 ^ 16 ≤ qt_pk r := Nat.div_le_self _ _
  rw [pf_shr (d := 16) (by decide) (by omega), lN_i, pk_andN (by omega) 4 (by decide)]
  exact congrArg (fun x => nI x - 1) (qt_pkD h).2.2.2.1
theorem qt_pkE {r : qt_R} (h : qt_rb r) : (lN (qt_pk r) >>> ((20 : Int32).toInt64 &&& 63)).toInt32 = nI r.1 := by
  have hl := qt_pkL h
  rw [pf_shr (d := 20) (by decide) (by omega), lN_i]
  exact congrArg nI (qt_pkD h).2.2.2.2
theorem qt_mA (c : Nat) : qt_m c + 1 = nI c := by unfold qt_m; exact Int32.sub_add_cancel _ _
theorem qt_pkW {e q a b c : Nat} (h : qt_rb (e, q, a, b, c)) : (((((nI e).toInt64 <<< ((20 : Int32).toInt64 &&& 63)) ||| (((qt_m c + 1) <<< ((16 : Int32) &&& 31)).toInt64)) ||| ((nI b <<< ((8 : Int32) &&& 31)).toInt64)) ||| ((nI a <<< ((3 : Int32) &&& 31)).toInt64)) ||| (nI q).toInt64 = lN (qt_pk (e, q, a, b, c)) := by
  obtain ⟨h1, h2, h3, h4, h5⟩ := h
  dsimp only at h1 h2 h3 h4 h5
  rw [qt_mA, pk_shlN ((16 : Int32) &&& 31) 16 (by decide) (by omega), pk_shlN ((8 : Int32) &&& 31) 8 (by decide) (by omega), pk_shlN ((3 : Int32) &&& 31) 3 (by decide) (by omega),
    nI_l (by omega), nI_l (by omega), nI_l (by omega), nI_l (by omega), nI_l (by omega)]
  have e0 : lN e <<< ((20 : Int32).toInt64 &&& 63) = lN (e * 2 ^ 20) := wb_shl e (k := 20) (by decide)
  rw [e0, qt_or (k := 20) (by omega) (by omega), show e * 2 ^ 20 + c * 2 ^ 16 = (e * 16 + c) * 2 ^ 16 by omega, qt_or (k := 16) (by omega) (by omega),
    show (e * 16 + c) * 2 ^ 16 + b * 2 ^ 8 = ((e * 16 + c) * 256 + b) * 2 ^ 8 by omega, qt_or (k := 8) (by omega) (by omega),
    show ((e * 16 + c) * 256 + b) * 2 ^ 8 + a * 2 ^ 3 = (((e * 16 + c) * 256 + b) * 32 + a) * 2 ^ 3 by omega, qt_or (k := 3) (by omega) (by omega)]
  apply congrArg lN
  show _ = e * 1048576 + c * 65536 + b * 256 + a * 8 + q
  omega
section
variable {T : qt_T} {mu ju : Nat → Bool} {ac ep : Nat} {to : Nat → Bool} {pr ba le : Nat → Nat} {lg : Nat → Nat → qt_R} {nu : Nat → Bool} {st un : Nat → Nat} {ua : Nat → Int32}
theorem ym_source {v : SY} (hL : sy_L (mu, ju, ac, ep, to, pr, ba, le, lg) v) {post : Int32 → Prop} (hp : post (nI (lj_src to))) : wpY_source post v := by
  obtain ⟨f_active, f_epoch, a_nodeUp, a_journalUp, a_masterUp, a_touch, a_log, a_many, a_promise, a_base, a_stamp, a_units, a_unit, a_sort, a_placeOf, a_client, a_rowLength, a_row, a_closedWith, a_stampOf⟩ := v
  obtain ⟨l1, l2, l3, l4, l5, l6, l7, l8, l9⟩ := hL
  have h0 : a_touch 0 = 0 ↔ to 0 = false := by rw [l5 0 (by decide), bo_p0]
  have h1 : a_touch 1 = 0 ↔ to 1 = false := by rw [l5 1 (by decide), bo_p0]
  refine cd_if h0 (fun z0 => cd_if h1 (fun z1 => ?_) (fun z1 => ?_)) (fun z0 => ?_)
  · have e : lj_src to = 2 := by unfold lj_src; rw [z0, z1]; rfl
    rw [e] at hp; exact hp
  · have e : lj_src to = 1 := by unfold lj_src; rw [z0, show to 1 = true by simpa using z1]; rfl
    rw [e] at hp; exact hp
  · have e : lj_src to = 0 := by unfold lj_src; rw [show to 0 = true by simpa using z0]; rfl
    rw [e] at hp; exact hp
theorem ym_nextStamp {v : SY} (hL : sy_L (mu, ju, ac, ep, to, pr, ba, le, lg) v) {post : Int32 → Prop} (hp : post (nI (2048 * ep + le (lj_src to)))) : wpY_nextStamp post v := by
  obtain ⟨f_active, f_epoch, a_nodeUp, a_journalUp, a_masterUp, a_touch, a_log, a_many, a_promise, a_base, a_stamp, a_units, a_unit, a_sort, a_placeOf, a_client, a_rowLength, a_row, a_closedWith, a_stampOf⟩ := v
  unfold wpY_nextStamp
  refine ym_source (v := (f_active, f_epoch, a_nodeUp, a_journalUp, a_masterUp, a_touch, a_log, a_many, a_promise, a_base, a_stamp, a_units, a_unit, a_sort, a_placeOf, a_client, a_rowLength, a_row, a_closedWith, a_stampOf)) hL ⟨vp_in_nI (lj_srcL to) (by decide), ?_⟩
  have e : f_epoch = nI ep := hL.2.1
  have hs := lj_srcL to
  rw [e, nI_clamp (by omega), hL.2.2.2.2.2.2.2.1 _ hs]
  rw [← mu_l] at hp
  exact hp
theorem ym_apply {v : SY} (h : sy_T T v) (hI : qt_iv T) (hL : sy_L (mu, ju, ac, ep, to, pr, ba, le, lg) v) (hD : sy_D (nu, st, un, ua) v) {post : SY → Prop} {k : Nat} {r : qt_R} (hk2 : k < 1000) (ho : qt_ok T r) (hp : ∀ v', sy_T (qt_ap T r k) v' → sy_L (mu, ju, ac, ep, to, pr, ba, le, lg) v' → sy_D (nu, st, un, ua) v' → post v') : wpY_apply post v (lN (qt_pk r)) (nI k) := by
  obtain ⟨f_active, f_epoch, a_nodeUp, a_journalUp, a_masterUp, a_touch, a_log, a_many, a_promise, a_base, a_stamp, a_units, a_unit, a_sort, a_placeOf, a_client, a_rowLength, a_row, a_closedWith, a_stampOf⟩ := v
  obtain ⟨so, pl, cl, cw, rl, ro, sp⟩ := T
  obtain ⟨l1, l2, l3, l4, l5, l6, l7, l8, l9⟩ := hL
  obtain ⟨d1, d2, d3, d4⟩ := hD
  have hB := qt_okB ho
  have pK := qt_pkK hB
  have pA := qt_pkA hB
  have pB := qt_pkB hB
  have pC := qt_pkC hB
  have pE := qt_pkE hB
  obtain ⟨e, q, a, b, c⟩ := r
  obtain ⟨hB1, hB2, hB3, hB4, hB5⟩ := hB
  dsimp only at pK pA pB pC pE hB1 hB2 hB3 hB4 hB5
  have h4 := qt_iv4 hI
  dsimp only [qt_rl] at h4
  refine nm_r pK (nm_r pA (nm_r pB (nm_r pC (nm_r (e' := nI (2048 * e + k)) (by rw [pE]; exact mu_l e 2048 k) ?_))))
  obtain ⟨_, ho⟩ := ho
  rcases ho with ⟨rfl, g1, g2, g3, g4, g5, g6⟩ | ⟨rfl, g1, g2, g3, g4, g5⟩ | ⟨rfl, g1, g2, g3⟩ | ⟨rfl, g1, g2, g3, g4⟩ | ⟨rfl, g1, g2, g3, g4, g5⟩ | ⟨rfl, g1, g2, g3, g4, g5, g6, g7⟩
  · have hva := vp_in_nI g2 (by decide : 12 < 2 ^ 31)
    have hca : (nI a).toNatClampNeg = a := nI_clamp (by omega)
    refine br_f (by decide) (br_f (by decide) (br_t rfl ?_))
    refine cd_if (qt_Nm (s := 0) (by omega) (by decide)) (fun z => ?_) (fun z => ?_)
    · refine ⟨hva, nm_e ⟨hva, nm_e ⟨hva, nm_e ⟨hva, nm_e ?_⟩⟩⟩⟩
      rw [hca]
      exact hp _ (qt_agMake (e := e) (k := k) h (by rw [if_neg (by omega)]; rfl) rfl rfl (fun i hi => rfl)) ⟨l1, l2, l3, l4, l5, l6, l7, l8, l9⟩ ⟨d1, d2, d3, d4⟩
    · refine ⟨hva, nm_e ⟨hva, nm_e ⟨hva, nm_e ⟨hva, nm_e ?_⟩⟩⟩⟩
      rw [hca]
      exact hp _ (qt_agMake (e := e) (k := k) h (by rw [if_pos (by omega)]; rfl) rfl rfl (fun i hi => rfl)) ⟨l1, l2, l3, l4, l5, l6, l7, l8, l9⟩ ⟨d1, d2, d3, d4⟩
  · have hva := vp_in_nI g1 (by decide : 12 < 2 ^ 31)
    have hca : (nI a).toNatClampNeg = a := nI_clamp (by omega)
    have hcb : (nI b).toNatClampNeg = b := nI_clamp (by omega)
    have hr : a_rowLength a = nI (rl a) := h.2.2.2.2.1 a g1
    have hix : 3 * nI a + nI (rl a) = nI (3 * a + rl a) := mu_l a 3 (rl a)
    refine br_f (by decide) (br_f (by decide) (br_f (by decide) (br_t rfl ?_)))
    refine ⟨hva, ?_⟩
    rw [hca, hr, hix, hcb, nI_1, show (nI (3 * a + rl a)).toNatClampNeg = 3 * a + rl a from nI_clamp (by omega)]
    exact ⟨vp_in_nI (by omega) (by decide), nm_e ⟨hva, hva, nm_e ⟨vp_in_nI g4 (by decide), nm_e (hp _ (qt_agBlock (e := e) (c := c) (k := k) h rfl rfl rfl h4 g3) ⟨l1, l2, l3, l4, l5, l6, l7, l8, l9⟩ ⟨d1, d2, d3, d4⟩)⟩⟩⟩
  · have hca : (nI a).toNatClampNeg = a := nI_clamp (by omega)
    refine br_f (by decide) (br_f (by decide) (br_f (by decide) (br_f (by decide) (br_t rfl ⟨vp_in_nI g1 (by decide), nm_e ?_⟩))))
    rw [hca]
    exact hp _ (qt_agStamp (e := e) (b := b) (c := c) (k := k) h rfl) ⟨l1, l2, l3, l4, l5, l6, l7, l8, l9⟩ ⟨d1, d2, d3, d4⟩
  · have hva := vp_in_nI g1 (by decide : 12 < 2 ^ 31)
    have hca : (nI a).toNatClampNeg = a := nI_clamp (by omega)
    have hr : a_rowLength a = nI (rl a) := h.2.2.2.2.1 a g1
    have hra := h4 a g1
    refine br_f (by decide) (br_f (by decide) (br_f (by decide) (br_f (by decide) (br_f (by decide) (br_t rfl ?_)))))
    refine ⟨hva, nm_e ⟨hva, nm_e ?_⟩⟩
    rw [hca, hr]
    refine cd_if (nI_eq (b := 0) (by omega) (by decide)) (fun z => ⟨hva, cd_if (nI_leI (b := 0) (by omega) (by decide)) (fun y => hp _ (qt_agClose (e := e) (c := c) (k := k) h rfl (fun i hi => ?_)) ⟨l1, l2, l3, l4, l5, l6, l7, l8, l9⟩ ⟨d1, d2, d3, d4⟩) (fun y => ⟨hva, hva, nm_e (hp _ (qt_agClose (e := e) (c := c) (k := k) h rfl (fun i hi => ?_)) ⟨l1, l2, l3, l4, l5, l6, l7, l8, l9⟩ ⟨d1, d2, d3, d4⟩)⟩)⟩) (fun z => hp _ (qt_agClose (e := e) (c := c) (k := k) h rfl (fun i hi => ?_)) ⟨l1, l2, l3, l4, l5, l6, l7, l8, l9⟩ ⟨d1, d2, d3, d4⟩)
    · rw [if_pos z]
      by_cases w : i = a
      · subst w; rw [qt_us, hr]; congr 1; omega
      · rw [qt_un w]; exact h.2.2.2.2.1 i hi
    · rw [if_pos z]
      by_cases w : i = a
      · subst w
        rw [pk_us, qt_us]
        obtain ⟨x, hx⟩ : ∃ x, rl i = x + 1 := ⟨rl i - 1, by omega⟩
        rw [hx, nI_pred]; rfl
      · rw [pk_un w, qt_un w]; exact h.2.2.2.2.1 i hi
    · rw [if_neg z]; exact h.2.2.2.2.1 i hi
  · have hva := vp_in_nI g2 (by decide : 12 < 2 ^ 31)
    have hca : (nI a).toNatClampNeg = a := nI_clamp (by omega)
    refine br_f (by decide) (br_f (by decide) (br_f (by decide) (br_f (by decide) (br_f (by decide) (br_f (by decide) (br_t rfl ?_))))))
    refine ⟨hva, nm_e ⟨hva, nm_e ?_⟩⟩
    rw [hca]
    exact hp _ (qt_agRemove (e := e) (b := b) (c := c) (k := k) h) ⟨l1, l2, l3, l4, l5, l6, l7, l8, l9⟩ ⟨d1, d2, d3, d4⟩
  · have hva := vp_in_nI g2 (by decide : 12 < 2 ^ 31)
    have hca : (nI a).toNatClampNeg = a := nI_clamp (by omega)
    refine br_f (by decide) (br_t (by decide) ⟨hva, nm_e ?_⟩)
    rw [hca]
    exact hp _ (qt_agMove (e := e) (c := c) (k := k) h rfl) ⟨l1, l2, l3, l4, l5, l6, l7, l8, l9⟩ ⟨d1, d2, d3, d4⟩
theorem ym_tell {v : SY} (hL : sy_L (mu, ju, ac, ep, to, pr, ba, le, lg) v) (hD : sy_D (nu, st, un, ua) v) {post : SY → Prop} (hw : ∀ j, j < 3 → qt_wf (lg j) (le j) ∧ le j ≤ 1000) (hp : ∀ v', sy_T (qt_ab (lg (lj_src to)) (le (lj_src to))) v' → sy_L (mu, ju, ac, ep, to, pr, ba, le, lg) v' → sy_D (nu, st, un, ua) v' → post v') : wpY_tell post v := by
  obtain ⟨f_active, f_epoch, a_nodeUp, a_journalUp, a_masterUp, a_touch, a_log, a_many, a_promise, a_base, a_stamp, a_units, a_unit, a_sort, a_placeOf, a_client, a_rowLength, a_row, a_closedWith, a_stampOf⟩ := v
  obtain ⟨hws, hls⟩ := hw _ (lj_srcL to)
  have hsl := lj_srcL to
  have key : ∀ m n k, k + m = le (lj_src to) → m < n → ∀ f_active f_epoch a_nodeUp a_journalUp a_masterUp a_touch a_log a_many a_promise a_base a_stamp a_units a_unit a_sort a_placeOf a_client a_rowLength a_row a_closedWith a_stampOf, sy_T (qt_ab (lg (lj_src to)) k) (f_active, f_epoch, a_nodeUp, a_journalUp, a_masterUp, a_touch, a_log, a_many, a_promise, a_base, a_stamp, a_units, a_unit, a_sort, a_placeOf, a_client, a_rowLength, a_row, a_closedWith, a_stampOf) → sy_L (mu, ju, ac, ep, to, pr, ba, le, lg) (f_active, f_epoch, a_nodeUp, a_journalUp, a_masterUp, a_touch, a_log, a_many, a_promise, a_base, a_stamp, a_units, a_unit, a_sort, a_placeOf, a_client, a_rowLength, a_row, a_closedWith, a_stampOf) → sy_D (nu, st, un, ua) (f_active, f_epoch, a_nodeUp, a_journalUp, a_masterUp, a_touch, a_log, a_many, a_promise, a_base, a_stamp, a_units, a_unit, a_sort, a_placeOf, a_client, a_rowLength, a_row, a_closedWith, a_stampOf) → wY_tell_50 post (nI (lj_src to)) n (nI k) f_active f_epoch a_nodeUp a_journalUp a_masterUp a_touch a_log a_many a_promise a_base a_stamp a_units a_unit a_sort a_placeOf a_client a_rowLength a_row a_closedWith a_stampOf := by
    intro m
    induction m with
    | zero =>
      intro n k hk hn f_active f_epoch a_nodeUp a_journalUp a_masterUp a_touch a_log a_many a_promise a_base a_stamp a_units a_unit a_sort a_placeOf a_client a_rowLength a_row a_closedWith a_stampOf hT hL hD
      obtain ⟨n, rfl⟩ : ∃ n', n = n' + 1 := ⟨n - 1, by omega⟩
      refine ⟨vp_in_nI hsl (by decide), br_t ((cd_ge (hL.2.2.2.2.2.2.2.1 _ hsl) (by omega) (by omega) (by omega)).mpr (by omega)) ?_⟩
      have e : k = le (lj_src to) := by omega
      subst e
      exact hp _ hT hL hD
    | succ m ih =>
      intro n k hk hn f_active f_epoch a_nodeUp a_journalUp a_masterUp a_touch a_log a_many a_promise a_base a_stamp a_units a_unit a_sort a_placeOf a_client a_rowLength a_row a_closedWith a_stampOf hT hL hD
      obtain ⟨n, rfl⟩ : ∃ n', n = n' + 1 := ⟨n - 1, by omega⟩
      refine ⟨vp_in_nI hsl (by decide), br_f ((not_congr (cd_ge (hL.2.2.2.2.2.2.2.1 _ hsl) (by omega) (by omega) (by omega))).mpr (by omega)) ?_⟩
      rw [show 1001 * nI (lj_src to) + nI k = nI (1001 * lj_src to + k) from mu_l _ 1001 k]
      refine ⟨vp_in_nI (by omega) (by decide), ?_⟩
      rw [nI_clamp (by omega), hL.2.2.2.2.2.2.2.2 _ k hsl (by omega)]
      refine ym_apply (v := (f_active, f_epoch, a_nodeUp, a_journalUp, a_masterUp, a_touch, a_log, a_many, a_promise, a_base, a_stamp, a_units, a_unit, a_sort, a_placeOf, a_client, a_rowLength, a_row, a_closedWith, a_stampOf)) hT (qt_ivAb (fun i hi => hws i (by omega)) (by omega)) hL hD (by omega) (hws k (by omega)) ?_
      rintro ⟨f_active, f_epoch, a_nodeUp, a_journalUp, a_masterUp, a_touch, a_log, a_many, a_promise, a_base, a_stamp, a_units, a_unit, a_sort, a_placeOf, a_client, a_rowLength, a_row, a_closedWith, a_stampOf⟩ hT hL hD
      exact nm_r (nI_1 k) (ih n (k + 1) (by omega) (by omega) _ _ _ _ _ _ _ _ _ _ _ _ _ _ _ _ _ _ _ _ hT hL hD)
  obtain ⟨l1, l2, l3, l4, l5, l6, l7, l8, l9⟩ := hL
  obtain ⟨d1, d2, d3, d4⟩ := hD
  have p1 : ∀ k n i, i + k = 12 → k < n → ∀ aS aP aL : Nat → Int32, (∀ j, j < i → aS j = (if j = 0 then 1 else 0) ∧ aP j = -1 ∧ aL j = 0) → wY_tell_2 post f_active f_epoch n (nI i) a_nodeUp a_journalUp a_masterUp a_touch a_log a_many a_promise a_base a_stamp a_units a_unit aS aP a_client aL a_row a_closedWith a_stampOf := by
    intro k
    induction k with
    | zero =>
      intro n i hi hn aS aP aL H
      obtain ⟨n, rfl⟩ : ∃ n', n = n' + 1 := ⟨n - 1, by omega⟩
      have e : i = 12 := by omega
      subst e
      refine br_t lb_t (ym_source (v := (f_active, f_epoch, a_nodeUp, a_journalUp, a_masterUp, a_touch, a_log, a_many, a_promise, a_base, a_stamp, a_units, a_unit, aS, aP, a_client, aL, a_row, a_closedWith, a_stampOf)) ⟨l1, l2, l3, l4, l5, l6, l7, l8, l9⟩ ⟨le (lj_src to) + 1, key (le (lj_src to)) _ 0 (by omega) (by omega) _ _ _ _ _ _ _ _ _ _ _ _ _ _ _ _ _ _ _ _ ⟨?_, ?_, ?_, ?_, ?_, ?_, ?_⟩ ⟨l1, l2, l3, l4, l5, l6, l7, l8, l9⟩ ⟨d1, d2, d3, d4⟩⟩)
      · intro i hi
        rw [(H i hi).1]
        by_cases z : i = 0
        · subst z; rfl
        · rw [if_neg z, qt_un z]; rfl
      · intro i hi
        rw [(H i hi).2.1]; exact qt_m0.symm
      · intro i hi z
        exfalso
        by_cases y : i = 0
        · subst y; exact absurd z (by decide)
        · rw [qt_un y] at z; omega
      · intro i hi z
        exfalso
        by_cases y : i = 0
        · subst y; exact absurd z (by decide)
        · rw [qt_un y] at z; omega
      · intro i hi
        rw [(H i hi).2.2]; rfl
      · intro i k hi hk
        exact absurd hk (Nat.not_lt_zero _)
      · intro b hb z
        rcases z with z | ⟨i, k, _, hk, _⟩
        · exact z.elim
        · exact absurd hk (Nat.not_lt_zero _)
    | succ k ih =>
      intro n i hi hn aS aP aL H
      obtain ⟨n, rfl⟩ : ∃ n', n = n' + 1 := ⟨n - 1, by omega⟩
      have hi' : i < 12 := by omega
      have hv := vp_in_nI hi' (by decide : 12 < 2 ^ 31)
      have step : ∀ z : Int32, z = (if i = 0 then 1 else 0) → wY_tell_22 post (wY_tell_2 post f_active f_epoch n) (nI i) z (nI i) f_active f_epoch a_nodeUp a_journalUp a_masterUp a_touch a_log a_many a_promise a_base a_stamp a_units a_unit aS aP a_client aL a_row a_closedWith a_stampOf := by
        intro z hz
        refine ⟨hv, nm_e ⟨hv, nm_e ⟨hv, nm_e (nm_r (nI_1 i) (ih n (i + 1) (by omega) (by omega) _ _ _ (fun j hj => ?_)))⟩⟩⟩
        rw [nI_clamp (by omega)]
        by_cases y : j = i
        · subst y; exact ⟨pk_us.trans hz, pk_us, pk_us⟩
        · rw [pk_un y, pk_un y, pk_un y]; exact H j (by omega)
      exact br_f (lb_f hi') (cd_if (nI_eq (b := 0) (by omega) (by decide)) (fun z => step 1 (by rw [if_pos z])) (fun z => step 0 (by rw [if_neg z])))
  exact ⟨13, p1 12 13 0 (by omega) (by omega) _ _ _ (fun j hj => by omega)⟩
end
