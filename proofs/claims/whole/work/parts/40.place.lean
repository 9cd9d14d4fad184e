/-! a new block gets its replicas -/
theorem rd_chS (nu : Nat → Bool) (st : Nat → Nat) (n x : Nat) : rd_ch nu st (n + 1) x = (rd_ch nu st n x || (rd_il nu st (fun y => !rd_ch nu st n y) 5 == x + 1)) := rfl
theorem rd_chN {nu : Nat → Bool} {st : Nat → Nat} {n : Nat} (h : rd_il nu st (fun y => !rd_ch nu st n y) 5 = 0) (x : Nat) : rd_ch nu st (n + 1) x = rd_ch nu st n x := by
  rw [rd_chS, h]; simp
theorem rd_chD {nu : Nat → Bool} {st : Nat → Nat} {n d : Nat} (h : rd_il nu st (fun y => !rd_ch nu st n y) 5 = d + 1) (x : Nat) : rd_ch nu st (n + 1) x = (rd_ch nu st n x || x == d) := by
  rw [rd_chS, h]
  congr 1
  by_cases z : x = d
  · subst z; simp
  · rw [beq_false_of_ne (show d + 1 ≠ x + 1 by omega), beq_false_of_ne z]
/-- nodes that are asked keep their loads -/
theorem rd_ilch {nu f : Nat → Bool} {st : Nat → Nat} {b x : Nat} (hb : b < 16) : rd_il nu (rd_set x f b st) (fun y => !f y) 5 = rd_il nu st (fun y => !f y) 5 := by
  refine rd_ilC (fun _ _ => rfl) (fun d hd hf => rd_ldC (fun b' hb' => ?_))
  have hfd : f d = false := by simpa using hf
  by_cases z : b' = b
  · subst z; rw [rd_setA hb, if_neg (by rw [hfd]; decide)]
  · exact rd_setN hb' z
theorem rd_ch1 {nu : Nat → Bool} {st : Nat → Nat} (h : rd_il nu st (fun _ => true) 5 ≠ 0) : ∃ d, d < 5 ∧ rd_ch nu st 3 d = true := by
  rcases rd_ilP (nu := nu) (st := st) (ok := fun _ => true) (n := 5) with z | ⟨z, _, _⟩
  · exact absurd z h
  · refine ⟨rd_il nu st (fun _ => true) 5 - 1, by omega, ?_⟩
    have e : rd_ch nu st 1 (rd_il nu st (fun _ => true) 5 - 1) = true := by
      show (false || (rd_il nu st (fun _ => true) 5 == rd_il nu st (fun _ => true) 5 - 1 + 1)) = true
      rw [Bool.false_or]
      simp; omega
    rw [rd_chS, rd_chS, e]; rfl
section
variable {T : qt_T} {mu ju : Nat → Bool} {ac ep : Nat} {to : Nat → Bool} {pr ba le : Nat → Nat} {lg : Nat → Nat → qt_R} {nu : Nat → Bool} {st un : Nat → Nat} {ua : Nat → Int32}
theorem xm_addBlock {k : Nat} {u : SX} (h : sx_T T u) (hI : qt_iv T) (hL : sx_L (mu, ju, ac, ep, to, pr, ba, le, lg) u) (hD : sx_D (nu, st, un, ua) u) (hac : 0 < ac) (hiv : lj_iv k (mu, ju, ac, ep, to, pr, ba, le, lg) T) (hrm : lj_rm (mu, ju, ac, ep, to, pr, ba, le, lg) 1) {post : Int32 → SX → Prop} {n b : Nat} (hb16 : b < 16) (hb : ls_f (fun b => ¬ qt_in (qt_rl T) (qt_ro T) b) 16 b) (ho : qt_ok T (ep, 1, n, b, 1))
    (h1 : lj_kept (mu, ju, ac, ep, to, pr, ba, le, lg) = true → ∀ u', sx_T (qt_ap T (ep, 1, n, b, 1) (le (lj_src to))) u' → sx_L (lj_wr (mu, ju, ac, ep, to, pr, ba, le, lg) 1 n b 1) u' → sx_D (rd_rn (nu, st, un, ua) (rd_ch nu st 3) b (2048 * ep + le (lj_src to)) 0) u' → post 1 u')
    (h0 : lj_kept (mu, ju, ac, ep, to, pr, ba, le, lg) = false → ∀ u', sx_T T u' → sx_L (lj_wr (mu, ju, ac, ep, to, pr, ba, le, lg) 1 n b 1) u' → sx_D (rd_rn (nu, st, un, ua) (rd_ch nu st 3) b (2048 * ep + le (lj_src to)) 0) u' → post 0 u') : wpX_addBlock post u (nI n) := by
  obtain ⟨f_active, f_epoch, a_dataNodeDown, a_journalDown, a_masterDown, a_inTouch, a_promise, a_base, a_logLength, a_logEpoch, a_logKind, a_logA, a_logB, a_logC, a_inodeState, a_inodePlace, a_inodeClient, a_closeUnits, a_rowLength, a_rowBlock, a_blockStamp, a_replicaHeld, a_replicaStamp, a_unitCount, a_unitValue⟩ := u
  unfold wpX_addBlock
  have h2 := (hiv.2.2.2.2.2 hac).1
  refine xm_leastFreeBlock (u := (f_active, f_epoch, a_dataNodeDown, a_journalDown, a_masterDown, a_inTouch, a_promise, a_base, a_logLength, a_logEpoch, a_logKind, a_logA, a_logB, a_logC, a_inodeState, a_inodePlace, a_inodeClient, a_closeUnits, a_rowLength, a_rowBlock, a_blockStamp, a_replicaHeld, a_replicaStamp, a_unitCount, a_unitValue)) h hI hb ?_
  rw [ls_vS hb16]
  refine xm_nextStamp (u := (f_active, f_epoch, a_dataNodeDown, a_journalDown, a_masterDown, a_inTouch, a_promise, a_base, a_logLength, a_logEpoch, a_logKind, a_logA, a_logB, a_logC, a_inodeState, a_inodePlace, a_inodeClient, a_closeUnits, a_rowLength, a_rowBlock, a_blockStamp, a_replicaHeld, a_replicaStamp, a_unitCount, a_unitValue)) hL h2 ?_
  generalize hs : 2048 * ep + le (lj_src to) = s at h1 h0
  have key : ∀ m i r, r + m = 3 → m < i → ∀ f_active f_epoch a_dataNodeDown a_journalDown a_masterDown a_inTouch a_promise a_base a_logLength a_logEpoch a_logKind a_logA a_logB a_logC a_inodeState a_inodePlace a_inodeClient a_closeUnits a_rowLength a_rowBlock a_blockStamp a_replicaHeld a_replicaStamp a_unitCount a_unitValue, sx_T T (f_active, f_epoch, a_dataNodeDown, a_journalDown, a_masterDown, a_inTouch, a_promise, a_base, a_logLength, a_logEpoch, a_logKind, a_logA, a_logB, a_logC, a_inodeState, a_inodePlace, a_inodeClient, a_closeUnits, a_rowLength, a_rowBlock, a_blockStamp, a_replicaHeld, a_replicaStamp, a_unitCount, a_unitValue) → sx_L (mu, ju, ac, ep, to, pr, ba, le, lg) (f_active, f_epoch, a_dataNodeDown, a_journalDown, a_masterDown, a_inTouch, a_promise, a_base, a_logLength, a_logEpoch, a_logKind, a_logA, a_logB, a_logC, a_inodeState, a_inodePlace, a_inodeClient, a_closeUnits, a_rowLength, a_rowBlock, a_blockStamp, a_replicaHeld, a_replicaStamp, a_unitCount, a_unitValue) → sx_D (nu, rd_set (s + 1) (rd_ch nu st r) b st, rd_set 0 (rd_ch nu st r) b un, ua) (f_active, f_epoch, a_dataNodeDown, a_journalDown, a_masterDown, a_inTouch, a_promise, a_base, a_logLength, a_logEpoch, a_logKind, a_logA, a_logB, a_logC, a_inodeState, a_inodePlace, a_inodeClient, a_closeUnits, a_rowLength, a_rowBlock, a_blockStamp, a_replicaHeld, a_replicaStamp, a_unitCount, a_unitValue) → wX_addBlock_16 post (nI n) (nI b) (nI s) i (nI (rd_mk (rd_ch nu st r) 5)) (nI r) f_active f_epoch a_dataNodeDown a_journalDown a_masterDown a_inTouch a_promise a_base a_logLength a_logEpoch a_logKind a_logA a_logB a_logC a_inodeState a_inodePlace a_inodeClient a_closeUnits a_rowLength a_rowBlock a_blockStamp a_replicaHeld a_replicaStamp a_unitCount a_unitValue := by
    intro m
    induction m with
    | zero =>
      intro i r hr hi f_active f_epoch a_dataNodeDown a_journalDown a_masterDown a_inTouch a_promise a_base a_logLength a_logEpoch a_logKind a_logA a_logB a_logC a_inodeState a_inodePlace a_inodeClient a_closeUnits a_rowLength a_rowBlock a_blockStamp a_replicaHeld a_replicaStamp a_unitCount a_unitValue h hL hD
      obtain ⟨i, rfl⟩ : ∃ i', i = i' + 1 := ⟨i - 1, by omega⟩
      have e : r = 3 := by omega
      subst e
      refine br_t lb_t (xm_writeRecord1 (u := (f_active, f_epoch, a_dataNodeDown, a_journalDown, a_masterDown, a_inTouch, a_promise, a_base, a_logLength, a_logEpoch, a_logKind, a_logA, a_logB, a_logC, a_inodeState, a_inodePlace, a_inodeClient, a_closeUnits, a_rowLength, a_rowBlock, a_blockStamp, a_replicaHeld, a_replicaStamp, a_unitCount, a_unitValue)) (q := 1) h hI hL hD hac hiv hrm ho (fun hk => ?_) (fun hk => ?_))
      · rintro ⟨f_active, f_epoch, a_dataNodeDown, a_journalDown, a_masterDown, a_inTouch, a_promise, a_base, a_logLength, a_logEpoch, a_logKind, a_logA, a_logB, a_logC, a_inodeState, a_inodePlace, a_inodeClient, a_closeUnits, a_rowLength, a_rowBlock, a_blockStamp, a_replicaHeld, a_replicaStamp, a_unitCount, a_unitValue⟩ g1 g2 g3
        exact ⟨rfl, h1 hk _ g1 g2 g3⟩
      · rintro ⟨f_active, f_epoch, a_dataNodeDown, a_journalDown, a_masterDown, a_inTouch, a_promise, a_base, a_logLength, a_logEpoch, a_logKind, a_logA, a_logB, a_logC, a_inodeState, a_inodePlace, a_inodeClient, a_closeUnits, a_rowLength, a_rowBlock, a_blockStamp, a_replicaHeld, a_replicaStamp, a_unitCount, a_unitValue⟩ g1 g2 g3
        exact ⟨rfl, h0 hk _ g1 g2 g3⟩
    | succ m ih =>
      intro i r hr hi f_active f_epoch a_dataNodeDown a_journalDown a_masterDown a_inTouch a_promise a_base a_logLength a_logEpoch a_logKind a_logA a_logB a_logC a_inodeState a_inodePlace a_inodeClient a_closeUnits a_rowLength a_rowBlock a_blockStamp a_replicaHeld a_replicaStamp a_unitCount a_unitValue h hL hD
      obtain ⟨i, rfl⟩ : ∃ i', i = i' + 1 := ⟨i - 1, by omega⟩
      have hil : rd_il nu st (fun y => !rd_ch nu st r y) 5 ≤ 5 := by
        rcases rd_ilP (nu := nu) (st := st) (ok := fun y => !rd_ch nu st r y) (n := 5) with y | y <;> omega
      refine br_f (lb_f (N := 3) (by omega)) (xm_leastLoadedNode (u := (f_active, f_epoch, a_dataNodeDown, a_journalDown, a_masterDown, a_inTouch, a_promise, a_base, a_logLength, a_logEpoch, a_logKind, a_logA, a_logB, a_logC, a_inodeState, a_inodePlace, a_inodeClient, a_closeUnits, a_rowLength, a_rowBlock, a_blockStamp, a_replicaHeld, a_replicaStamp, a_unitCount, a_unitValue)) hD ?_)
      rw [rd_ilch hb16]
      by_cases hz : rd_il nu st (fun y => !rd_ch nu st r y) 5 = 0
      · rw [hz, qt_m0]
        refine br_t rfl (nm_r (nI_1 r) ?_)
        have := ih i (r + 1) (by omega) (by omega) _ _ _ _ _ _ _ _ _ _ _ _ _ _ _ _ _ _ _ _ _ _ _ _ _ h hL (sx_Dc hD (fun c hc => rd_setC hc (fun d _ => (rd_chN hz d).symm)) (fun c hc => rd_setC hc (fun d _ => (rd_chN hz d).symm)))
        rw [rd_mkC (g := rd_ch nu st r) (fun d _ => rd_chN hz d)] at this
        exact this
      · obtain ⟨d, hd⟩ : ∃ d, rd_il nu st (fun y => !rd_ch nu st r y) 5 = d + 1 := ⟨rd_il nu st (fun y => !rd_ch nu st r y) 5 - 1, by omega⟩
        have hd5 : d < 5 := by omega
        rw [hd, qt_ms]
        refine br_f (ix_m1 (by omega)) (xm_putEmpty (u := (f_active, f_epoch, a_dataNodeDown, a_journalDown, a_masterDown, a_inTouch, a_promise, a_base, a_logLength, a_logEpoch, a_logKind, a_logA, a_logB, a_logC, a_inodeState, a_inodePlace, a_inodeClient, a_closeUnits, a_rowLength, a_rowBlock, a_blockStamp, a_replicaHeld, a_replicaStamp, a_unitCount, a_unitValue)) h hL hD hd5 hb16 ?_)
        rintro ⟨f_active, f_epoch, a_dataNodeDown, a_journalDown, a_masterDown, a_inTouch, a_promise, a_base, a_logLength, a_logEpoch, a_logKind, a_logA, a_logB, a_logC, a_inodeState, a_inodePlace, a_inodeClient, a_closeUnits, a_rowLength, a_rowBlock, a_blockStamp, a_replicaHeld, a_replicaStamp, a_unitCount, a_unitValue⟩ g1 g2 g3
        refine nm_r (rd_or _ hd5) (nm_r (nI_1 r) ?_)
        have e1 : ∀ (x : Nat) (g : Nat → Nat) c, c < 80 → qt_u (rd_set x (rd_ch nu st r) b g) (16 * d + b) x c = rd_set x (rd_ch nu st (r + 1)) b g c := by
          intro x g c hc
          rw [rd_setC (f' := fun y => rd_ch nu st r y || y == d) hc (fun e _ => rd_chD hd e), rd_setS hb16]
          by_cases z : c = 16 * d + b
          · subst z; rw [qt_us, if_pos rfl]
          · rw [qt_un z, if_neg z]
        have := ih i (r + 1) (by omega) (by omega) _ _ _ _ _ _ _ _ _ _ _ _ _ _ _ _ _ _ _ _ _ _ _ _ _ g1 g2 (sx_Dc g3 (e1 (s + 1) st) (e1 0 un))
        rw [rd_mkC (g := fun x => rd_ch nu st r x || x == d) (fun e _ => rd_chD hd e)] at this
        exact this
  have e0 : rd_mk (rd_ch nu st 0) 5 = 0 := rd_mk0
  have := key 3 4 0 (by omega) (by omega) _ _ _ _ _ _ _ _ _ _ _ _ _ _ _ _ _ _ _ _ _ _ _ _ _ h hL (sx_Dc hD (fun c hc => (rd_set0 (c := c)).symm) (fun c hc => (rd_set0 (c := c)).symm))
  rw [e0] at this
  exact ⟨4, this⟩
theorem ym_place {v : SY} (h : sy_T T v) (hL : sy_L (mu, ju, ac, ep, to, pr, ba, le, lg) v) (hD : sy_D (nu, st, un, ua) v) (hb : rd_bd (nu, st, un, ua)) {post : SY → Prop} {b : Nat} (hb16 : b < 16) (hp : ∀ v', sy_T T v' → sy_L (mu, ju, ac, ep, to, pr, ba, le, lg) v' → sy_D (rd_rn (nu, st, un, ua) (rd_ch nu st 3) b (2048 * ep + le (lj_src to)) 0) v' → post v') : wpY_place post v (nI b) := by
  obtain ⟨f_active, f_epoch, a_nodeUp, a_journalUp, a_masterUp, a_touch, a_log, a_many, a_promise, a_base, a_stamp, a_units, a_unit, a_sort, a_placeOf, a_client, a_rowLength, a_row, a_closedWith, a_stampOf⟩ := v
  unfold wpY_place
  refine ym_nextStamp (v := (f_active, f_epoch, a_nodeUp, a_journalUp, a_masterUp, a_touch, a_log, a_many, a_promise, a_base, a_stamp, a_units, a_unit, a_sort, a_placeOf, a_client, a_rowLength, a_row, a_closedWith, a_stampOf)) hL ?_
  generalize hs : 2048 * ep + le (lj_src to) = s at hp
  have h' : qt_ag False T a_sort a_placeOf a_client a_closedWith a_rowLength a_row a_stampOf := h
  have fin : ∃ n, wY_place_47 post (nI b) (nI (rd_mk (fun x => !rd_ch nu st 3 x) 5)) (nI s) f_active f_epoch n 0 a_nodeUp a_journalUp a_masterUp a_touch a_log a_many a_promise a_base a_stamp a_units a_unit a_sort a_placeOf a_client a_rowLength a_row a_closedWith a_stampOf := by
    obtain ⟨l1, l2, l3, l4, l5, l6, l7, l8, l9⟩ := hL
    obtain ⟨d1, d2, d3, d4⟩ := hD
    have hcu : ∀ d, rd_ch nu st 3 d = true → nu d = true := fun d => rd_chU
    generalize rd_ch nu st 3 = f at hp hcu
    have key : ∀ k n d, d + k = 5 → k < n → ∀ aS aU : Nat → Int32, (∀ c, c < 80 → aS c = qt_m (rd_set (s + 1) (rd_b f d) b st c)) → (∀ c, c < 80 → aU c = nI (rd_set 0 (rd_b f d) b un c)) → wY_place_47 post (nI b) (nI (rd_mk (fun x => !f x) 5)) (nI s) f_active f_epoch n (nI d) a_nodeUp a_journalUp a_masterUp a_touch a_log a_many a_promise a_base aS aU a_unit a_sort a_placeOf a_client a_rowLength a_row a_closedWith a_stampOf := by
      intro k
      induction k with
      | zero =>
        intro n d hd hn aS aU HS HU
        obtain ⟨n, rfl⟩ : ∃ n', n = n' + 1 := ⟨n - 1, by omega⟩
        have e : d = 5 := by omega
        subst e
        have hDn : sy_D (rd_rn (nu, st, un, ua) f b s 0) (f_active, f_epoch, a_nodeUp, a_journalUp, a_masterUp, a_touch, a_log, a_many, a_promise, a_base, aS, aU, a_unit, a_sort, a_placeOf, a_client, a_rowLength, a_row, a_closedWith, a_stampOf) := sy_Dc (st := rd_set (s + 1) (rd_b f 5) b st) (un := rd_set 0 (rd_b f 5) b un) ⟨d1, HS, HU, d4⟩ (fun c hc => rd_setC hc (fun e he => rd_b5 he)) (fun c hc => rd_setC hc (fun e he => rd_b5 he))
        exact br_t lb_t (hp _ h' ⟨l1, l2, l3, l4, l5, l6, l7, l8, l9⟩ hDn)
      | succ k ih =>
        intro n d hd hn aS aU HS HU
        obtain ⟨n, rfl⟩ : ∃ n', n = n' + 1 := ⟨n - 1, by omega⟩
        have hd5 : d < 5 := by omega
        have hc : 16 * d + b < 80 := by omega
        have hv := vp_in_nI hc (by decide : 80 < 2 ^ 31)
        have hcc : (nI (16 * d + b)).toNatClampNeg = 16 * d + b := nI_clamp (by omega)
        have skip : f d = false → wY_place_47 post (nI b) (nI (rd_mk (fun x => !f x) 5)) (nI s) f_active f_epoch n (nI (d + 1)) a_nodeUp a_journalUp a_masterUp a_touch a_log a_many a_promise a_base aS aU a_unit a_sort a_placeOf a_client a_rowLength a_row a_closedWith a_stampOf := by
          intro z
          refine ih n (d + 1) (by omega) (by omega) aS aU (fun c hc => ?_) (fun c hc => ?_)
          · rw [rd_setF hc z]; exact HS c hc
          · rw [rd_setF hc z]; exact HU c hc
        refine br_f (lb_f hd5) (cd_if (rd_b1 (fun x => !f x) hd5) (fun z => nm_r (nI_1 d) (skip (by simpa using z))) (fun z => ⟨vp_in_nI hd5 (by decide), ?_⟩))
        have z' : f d = true := by simpa using z
        refine br_f ((not_congr (cd_p (d1 d hd5) (by omega))).mpr (by rw [hcu d z']; decide)) ?_
        rw [show 16 * nI d + nI b = nI (16 * d + b) from mu_l d 16 b]
        refine ⟨hv, nm_e ⟨hv, nm_e (nm_r (nI_1 d) ?_)⟩⟩
        rw [hcc]
        refine ih n (d + 1) (by omega) (by omega) _ _ (fun c hc => ?_) (fun c hc => ?_)
        · rw [rd_setT hb16 hc z']
          by_cases y : c = 16 * d + b
          · subst y; rw [pk_us, if_pos rfl, qt_ms]
          · rw [pk_un y, if_neg y]; exact HS c hc
        · rw [rd_setT hb16 hc z']
          by_cases y : c = 16 * d + b
          · subst y; rw [pk_us, if_pos rfl]; rfl
          · rw [pk_un y, if_neg y]; exact HU c hc
    refine ⟨6, key 5 6 0 (by omega) (by omega) _ _ (fun c hc => ?_) (fun c hc => ?_)⟩
    · rw [rd_setC (f' := fun _ => false) hc (fun e _ => rd_b0'), rd_set0]; exact d2 c hc
    · rw [rd_setC (f' := fun _ => false) hc (fun e _ => rd_b0'), rd_set0]; exact d3 c hc
  have key : ∀ m i r, r + m = 3 → m < i → wY_place_11 post (nI b) (nI s) f_active f_epoch a_nodeUp a_journalUp a_masterUp a_touch a_log a_many a_promise a_base a_stamp a_units a_unit a_sort a_placeOf a_client a_rowLength a_row a_closedWith a_stampOf i (nI (rd_mk (fun x => !rd_ch nu st r x) 5)) (nI r) := by
    intro m
    induction m with
    | zero =>
      intro i r hr hi
      obtain ⟨i, rfl⟩ : ∃ i', i = i' + 1 := ⟨i - 1, by omega⟩
      have e : r = 3 := by omega
      subst e
      exact br_t lb_t fin
    | succ m ih =>
      intro i r hr hi
      obtain ⟨i, rfl⟩ : ∃ i', i = i' + 1 := ⟨i - 1, by omega⟩
      have hil : rd_il nu st (fun y => !rd_ch nu st r y) 5 ≤ 5 := by
        rcases rd_ilP (nu := nu) (st := st) (ok := fun y => !rd_ch nu st r y) (n := 5) with y | y <;> omega
      have IH := ih i (r + 1) (by omega) (by omega)
      refine br_f (lb_f (N := 3) (by omega)) (ym_idlest (v := (f_active, f_epoch, a_nodeUp, a_journalUp, a_masterUp, a_touch, a_log, a_many, a_promise, a_base, a_stamp, a_units, a_unit, a_sort, a_placeOf, a_client, a_rowLength, a_row, a_closedWith, a_stampOf)) hD hb ?_)
      by_cases hz : rd_il nu st (fun y => !rd_ch nu st r y) 5 = 0
      · rw [hz, qt_m0]
        refine br_t (by decide) (nm_r (nI_1 r) ?_)
        rw [rd_mkC (g := fun x => !rd_ch nu st r x) (fun d _ => by rw [rd_chN hz d])] at IH
        exact IH
      · obtain ⟨d, hd⟩ : ∃ d, rd_il nu st (fun y => !rd_ch nu st r y) 5 = d + 1 := ⟨rd_il nu st (fun y => !rd_ch nu st r y) 5 - 1, by omega⟩
        have hd5 : d < 5 := by omega
        rw [hd, qt_ms]
        refine br_f (nI_pos (by omega)) (nm_r (rd_an _ hd5) (nm_r (nI_1 r) ?_))
        rw [rd_mkC (g := fun x => (!rd_ch nu st r x) && !(x == d)) (fun e _ => by rw [rd_chD hd e, Bool.not_or])] at IH
        exact IH
  have e0 : rd_mk (fun x => !rd_ch nu st 0 x) 5 = 31 := rd_mk1
  have := key 3 4 0 (by omega) (by omega)
  rw [e0] at this
  exact ⟨4, this⟩
end
