/-! reading the tables: the reference -/
theorem ym_in {post : Int32 → Prop} {x y : Int32} {N n : Nat} (h : ix_c x N n) (hN : N < 2 ^ 31) (hy : y = nI N) (h1 : n < N → post 1) (h0 : n = N → post 0) : wpY_in post x y := ix_t h hy hN (fun a _ => h1 a) h0
theorem ym_isDirectory {T : qt_T} {v : SY} (h : sy_T T v) (hI : qt_iv T) {post : Int32 → Prop} {i : Int32} {n : Nat} (hn : ix_c i 12 n) (h1 : n < 12 → qt_so T n = 1 → post 1) (h0 : (n < 12 → qt_so T n ≠ 1) → post 0) : wpY_isDirectory post v i := by
  obtain ⟨f_active, f_epoch, a_nodeUp, a_journalUp, a_masterUp, a_touch, a_log, a_many, a_promise, a_base, a_stamp, a_units, a_unit, a_sort, a_placeOf, a_client, a_rowLength, a_row, a_closedWith, a_stampOf⟩ := v
  unfold wpY_isDirectory
  refine ym_in hn (by decide) rfl (fun hlt => br_f bo_1 ?_) (fun e => br_t rfl (h0 (fun hlt => by omega)))
  have e := ix_i hn hlt
  subst e
  have hb := qt_iv3 hI n hlt
  exact ⟨vp_in_nI hlt (by decide), cd_if (cd_e (c := 1) (qt_ag1 h n hlt) (by omega) (by omega) (by decide)) (fun z => h1 hlt z) (fun z => h0 (fun _ => z))⟩
theorem ym_isFile {T : qt_T} {v : SY} (h : sy_T T v) (hI : qt_iv T) {post : Int32 → Prop} {i : Int32} {n : Nat} (hn : ix_c i 12 n) (h1 : n < 12 → 2 ≤ qt_so T n → post 1) (h0 : (n < 12 → qt_so T n < 2) → post 0) : wpY_isFile post v i := by
  obtain ⟨f_active, f_epoch, a_nodeUp, a_journalUp, a_masterUp, a_touch, a_log, a_many, a_promise, a_base, a_stamp, a_units, a_unit, a_sort, a_placeOf, a_client, a_rowLength, a_row, a_closedWith, a_stampOf⟩ := v
  unfold wpY_isFile
  refine ym_in hn (by decide) rfl (fun hlt => br_f bo_1 ?_) (fun e => br_t rfl (h0 (fun hlt => by omega)))
  have e := ix_i hn hlt
  subst e
  have hb := qt_iv3 hI n hlt
  exact ⟨vp_in_nI hlt (by decide), cd_if (cd_ge (c := 1) (qt_ag1 h n hlt) (by omega) (by omega) (by decide)) (fun z => h0 (fun _ => by omega)) (fun z => h1 hlt (by omega))⟩
theorem ym_named {T : qt_T} {v : SY} (h : sy_T T v) (hI : qt_iv T) {post : Int32 → Prop} {D N m : Nat} (hD : D < 12) (hN : N < 8) (hm : ls_f (fun i => 1 ≤ i ∧ qt_so T i ≠ 0 ∧ qt_pl T i = 8 * D + N + 1) 12 m) (hp : post (ls_v 12 m)) : wpY_named post v (nI D) (nI N) := by
  obtain ⟨f_active, f_epoch, a_nodeUp, a_journalUp, a_masterUp, a_touch, a_log, a_many, a_promise, a_base, a_stamp, a_units, a_unit, a_sort, a_placeOf, a_client, a_rowLength, a_row, a_closedWith, a_stampOf⟩ := v
  have e8 : (8 : Int32) * nI D + nI N = nI (8 * D + N) := mu_l D 8 N
  have hm1 : 1 ≤ m := by
    by_cases z : m = 0
    · subst z; exact (hm.2.2 (by decide)).1
    · omega
  refine ⟨13, lq_s (fun n d => wY_named_2 post (nI D) (nI N) f_active f_epoch a_nodeUp a_journalUp a_masterUp a_touch a_log a_many a_promise a_base a_stamp a_units a_unit a_sort a_placeOf a_client a_rowLength a_row a_closedWith a_stampOf n (nI d)) 12 m hm.1 (fun n e => ?_) (fun n hlt => ?_) (fun n d hd H => ?_) 13 1 (by omega) (by omega)⟩
  · subst e
    rw [ls_vN] at hp
    exact br_t lb_t hp
  · have hb := qt_iv3 hI m hlt
    obtain ⟨p1, p2, p3⟩ := hm.2.2 hlt
    rw [ls_vS hlt] at hp
    exact br_f (lb_f hlt) ⟨vp_in_nI hlt (by decide), br_f ((not_congr (cd_e (c := 0) (qt_ag1 h m hlt) (by omega) (by omega) (by decide))).mpr p2) ⟨vp_in_nI hlt (by decide), br_t (by rw [e8]; exact (cd_me (qt_ag2 h m hlt) (by omega) (by omega) (by omega)).mpr p3) hp⟩⟩
  · have hlt : d < 12 := by have := hm.1; omega
    have hb := qt_iv3 hI d hlt
    have hnp := hm.2.1 d hd
    refine br_f (lb_f hlt) ⟨vp_in_nI hlt (by decide), cd_if (cd_e (c := 0) (qt_ag1 h d hlt) (by omega) (by omega) (by decide)) (fun z => nm_r (nI_1 d) H) (fun z => ⟨vp_in_nI hlt (by decide), br_f ?_ (nm_r (nI_1 d) H)⟩)⟩
    rw [e8]
    by_cases h0 : d = 0
    · subst h0
      rw [cd_me (qt_ag2 h 0 hlt) (by omega) (by rw [qt_iv2 hI]; decide) (by omega), qt_iv2 hI]
      omega
    · have hp6 := qt_iv6 hI d (by omega) hlt z
      rw [cd_me (qt_ag2 h d hlt) (by omega) (by omega) (by omega)]
      exact fun y => hnp ⟨by omega, z, y⟩
theorem ix_0 {n : Nat} (h : n < 2 ^ 31) : 0 ≤ nI n := nI_pos' h
theorem ix_n1 : ¬ (0 : Int32) ≤ -1 := by decide
theorem ym_isFree {T : qt_T} {v : SY} (h : sy_T T v) (hI : qt_iv T) {post : Int32 → Prop} {p q : Int32} {d x : Nat} (hd : ix_c p 12 d) (hx : ix_c q 8 x) (h1 : qt_fr T d x → post 1) (h0 : ¬ qt_fr T d x → post 0) : wpY_isFree post v p q := by
  obtain ⟨f_active, f_epoch, a_nodeUp, a_journalUp, a_masterUp, a_touch, a_log, a_many, a_promise, a_base, a_stamp, a_units, a_unit, a_sort, a_placeOf, a_client, a_rowLength, a_row, a_closedWith, a_stampOf⟩ := v
  unfold wpY_isFree
  refine ym_isDirectory (v := (f_active, f_epoch, a_nodeUp, a_journalUp, a_masterUp, a_touch, a_log, a_many, a_promise, a_base, a_stamp, a_units, a_unit, a_sort, a_placeOf, a_client, a_rowLength, a_row, a_closedWith, a_stampOf)) h hI hd (fun hlt hs => br_f bo_1 ?_) (fun hs => br_t rfl (h0 (fun z => hs z.1 z.2.2.1)))
  refine ym_in hx (by decide) rfl (fun hl => br_f bo_1 ?_) (fun e => br_t rfl (h0 (fun z => by have := z.2.1; omega)))
  have e := ix_i hx hl
  have e' := ix_i hd hlt
  subst e e'
  obtain ⟨m, hm⟩ := ls_ex (fun i => 1 ≤ i ∧ qt_so T i ≠ 0 ∧ qt_pl T i = 8 * d + x + 1) 12
  refine ym_named (v := (f_active, f_epoch, a_nodeUp, a_journalUp, a_masterUp, a_touch, a_log, a_many, a_promise, a_base, a_stamp, a_units, a_unit, a_sort, a_placeOf, a_client, a_rowLength, a_row, a_closedWith, a_stampOf)) h hI hlt hl hm ?_
  by_cases hmm : m < 12
  · rw [ls_vS hmm]
    exact br_t (ix_0 (by omega)) (h0 (fun z => z.2.2.2 m (hm.2.2 hmm).1 hmm (hm.2.2 hmm).2.1 (hm.2.2 hmm).2.2))
  · have e : m = 12 := by have := hm.1; omega
    subst e
    rw [ls_vN]
    exact br_f ix_n1 (h1 ⟨hlt, hl, hs, fun i i1 i2 i3 i4 => hm.2.1 i i2 ⟨i1, i3, i4⟩⟩)
theorem qt_ef0 {T : qt_T} {D : Nat} : qt_ef T D 0 = false := by unfold qt_ef; exact decide_eq_false (fun y => by omega)
theorem ym_inside {T : qt_T} {v : SY} (h : sy_T T v) (hI : qt_iv T) {post : Int32 → Prop} {D : Nat} (hD : D < 12) (hp : post (nI (rd_cn (qt_ef T D) 12))) : wpY_inside post v (nI D) := by
  obtain ⟨f_active, f_epoch, a_nodeUp, a_journalUp, a_masterUp, a_touch, a_log, a_many, a_promise, a_base, a_stamp, a_units, a_unit, a_sort, a_placeOf, a_client, a_rowLength, a_row, a_closedWith, a_stampOf⟩ := v
  have h1 : nI (rd_cn (qt_ef T D) 1) = 0 := by rw [rd_cnF qt_ef0]; rfl
  have key := lq_g (fun n d s => wY_inside_4 post (nI D) f_active f_epoch a_nodeUp a_journalUp a_masterUp a_touch a_log a_many a_promise a_base a_stamp a_units a_unit a_sort a_placeOf a_client a_rowLength a_row a_closedWith a_stampOf n s (nI d)) 1 12 (fun d => nI (rd_cn (qt_ef T D) d)) (fun n => br_t lb_t hp) (fun n d hd1 hd H => ?_) 13 1 (by omega) (by omega) (by omega)
  · refine ⟨13, ?_⟩
    have key' : wY_inside_4 post (nI D) f_active f_epoch a_nodeUp a_journalUp a_masterUp a_touch a_log a_many a_promise a_base a_stamp a_units a_unit a_sort a_placeOf a_client a_rowLength a_row a_closedWith a_stampOf 13 (nI (rd_cn (qt_ef T D) 1)) (nI 1) := key
    rw [h1] at key'
    exact key'
  · have hb := qt_iv3 hI d hd
    have hF : qt_ef T D d = false → wY_inside_4 post (nI D) f_active f_epoch a_nodeUp a_journalUp a_masterUp a_touch a_log a_many a_promise a_base a_stamp a_units a_unit a_sort a_placeOf a_client a_rowLength a_row a_closedWith a_stampOf n (nI (rd_cn (qt_ef T D) d)) (nI (d + 1)) := by
      intro z
      rw [← rd_cnF z]; exact H
    refine br_f (lb_f hd) ⟨vp_in_nI hd (by decide), cd_if (cd_e (c := 0) (qt_ag1 h d hd) (by omega) (by omega) (by decide)) (fun z => nm_r (nI_1 d) (hF ?_)) (fun z => ⟨vp_in_nI hd (by decide), by decide, ?_⟩)⟩
    · unfold qt_ef; exact decide_eq_false (fun y => y.2.1 z)
    · have h6 := qt_iv6 hI d hd1 hd z
      have e : a_placeOf (nI d).toNatClampNeg / 8 = nI (qt_pa (qt_pl T) d) := by
        rw [nI_clamp (by omega), qt_ag2 h d hd]
        obtain ⟨p, hp⟩ : ∃ p, qt_pl T d = p + 1 := ⟨qt_pl T d - 1, by omega⟩
        unfold qt_pa
        rw [hp, qt_ms]
        exact pk_div (d := 8) (by omega) (by decide) (by decide)
      rw [e]
      have hpa : qt_pa (qt_pl T) d < 12 := by unfold qt_pa; omega
      refine cd_if (nI_eq (by omega) (by omega)) (fun y => ?_) (fun y => nm_r (nI_1 d) (hF ?_))
      · have hf : qt_ef T D d = true := by unfold qt_ef; exact decide_eq_true ⟨by omega, z, y⟩
        exact nm_r (rd_cnT hf) (nm_r (nI_1 d) H)
      · unfold qt_ef; exact decide_eq_false (fun x => y x.2.2)
theorem ym_last {T : qt_T} {v : SY} (h : sy_T T v) (hI : qt_iv T) {post : Int32 → Prop} {f : Nat} (hf : f < 12) (h0 : qt_rl T f = 0 → post (-1)) (h1 : 0 < qt_rl T f → post (nI (qt_ro T (3 * f + (qt_rl T f - 1))))) : wpY_last post v (nI f) := by
  obtain ⟨f_active, f_epoch, a_nodeUp, a_journalUp, a_masterUp, a_touch, a_log, a_many, a_promise, a_base, a_stamp, a_units, a_unit, a_sort, a_placeOf, a_client, a_rowLength, a_row, a_closedWith, a_stampOf⟩ := v
  have hb := qt_iv4 hI f hf
  refine ⟨vp_in_nI hf (by decide), cd_if (cd_e (c := 0) (qt_ag5 h f hf) (by omega) (by omega) (by decide)) h0 (fun z => ⟨vp_in_nI hf (by decide), ?_⟩)⟩
  have e : 3 * nI f + a_rowLength (nI f).toNatClampNeg - 1 = nI (3 * f + (qt_rl T f - 1)) := by
    rw [nI_clamp (by omega), qt_ag5 h f hf, show (3 : Int32) = nI 3 from rfl, mu_l, show 3 * f + qt_rl T f = (3 * f + (qt_rl T f - 1)) + 1 by omega, nI_pred]
  rw [e]
  refine ⟨vp_in_nI (by omega) (by decide), ?_⟩
  rw [nI_clamp (by omega), qt_ag6 h f (qt_rl T f - 1) hf (by omega)]
  exact h1 (by omega)
theorem ym_inRow {T : qt_T} {v : SY} (h : sy_T T v) (hI : qt_iv T) {post : Int32 → Prop} {b : Nat} (hb : b < 16) (h1 : qt_in (qt_rl T) (qt_ro T) b → post 1) (h0 : ¬ qt_in (qt_rl T) (qt_ro T) b → post 0) : wpY_inRow post v (nI b) := by
  obtain ⟨f_active, f_epoch, a_nodeUp, a_journalUp, a_masterUp, a_touch, a_log, a_many, a_promise, a_base, a_stamp, a_units, a_unit, a_sort, a_placeOf, a_client, a_rowLength, a_row, a_closedWith, a_stampOf⟩ := v
  have inner : ∀ (J : Int32 → Prop) f, f < 12 → ∀ k n j, j + k = qt_rl T f → k < n → ((∀ i, j ≤ i → i < qt_rl T f → qt_ro T (3 * f + i) ≠ b) → J (nI (f + 1))) → wY_inRow_10 post J (nI b) (nI f) f_active f_epoch a_nodeUp a_journalUp a_masterUp a_touch a_log a_many a_promise a_base a_stamp a_units a_unit a_sort a_placeOf a_client a_rowLength a_row a_closedWith a_stampOf n (nI j) := by
    intro J f hf k
    have hr := qt_iv4 hI f hf
    induction k with
    | zero =>
      intro n j hj hn HJ
      obtain ⟨n, rfl⟩ : ∃ n', n = n' + 1 := ⟨n - 1, by omega⟩
      have e : j = qt_rl T f := by omega
      exact ⟨vp_in_nI hf (by decide), br_t ((cd_ge (qt_ag5 h f hf) (by omega) (by omega) (by omega)).mpr (by omega)) (nm_r (nI_1 f) (HJ (fun i a b => by omega)))⟩
    | succ k ih =>
      intro n j hj hn HJ
      obtain ⟨n, rfl⟩ : ∃ n', n = n' + 1 := ⟨n - 1, by omega⟩
      have h5 := qt_iv5 hI f j hf (by omega)
      refine ⟨vp_in_nI hf (by decide), br_f ((not_congr (cd_ge (qt_ag5 h f hf) (by omega) (by omega) (by omega))).mpr (by omega)) ?_⟩
      rw [show 3 * nI f + nI j = nI (3 * f + j) from mu_l f 3 j]
      refine ⟨vp_in_nI (by omega) (by decide), cd_if (cd_e (qt_ag6 h f j hf (by omega)) (by omega) (by omega) (by omega)) (fun z => h1 ⟨f, j, hf, by omega, z⟩) (fun z => nm_r (nI_1 j) (ih n (j + 1) (by omega) (by omega) (fun H => HJ (fun i a b => ?_))))⟩
      by_cases e : i = j
      · subst e; exact z
      · exact H i (by omega) b
  have outer : ∀ k n f, f + k = 12 → k < n → (∀ g, g < f → ∀ i, i < qt_rl T g → qt_ro T (3 * g + i) ≠ b) → wY_inRow_2 post (nI b) f_active f_epoch a_nodeUp a_journalUp a_masterUp a_touch a_log a_many a_promise a_base a_stamp a_units a_unit a_sort a_placeOf a_client a_rowLength a_row a_closedWith a_stampOf n (nI f) := by
    intro k
    induction k with
    | zero =>
      intro n f hf hn H
      obtain ⟨n, rfl⟩ : ∃ n', n = n' + 1 := ⟨n - 1, by omega⟩
      have e : f = 12 := by omega
      subst e
      exact br_t lb_t (h0 (fun ⟨g, i, hg, hi, z⟩ => H g hg i hi z))
    | succ k ih =>
      intro n f hf hn H
      obtain ⟨n, rfl⟩ : ∃ n', n = n' + 1 := ⟨n - 1, by omega⟩
      have hf' : f < 12 := by omega
      have hr := qt_iv4 hI f hf'
      refine br_f (lb_f hf') ⟨4, inner _ f hf' (qt_rl T f) 4 0 (by omega) (by omega) (fun H' => ih n (f + 1) (by omega) (by omega) (fun g hg i hi => ?_))⟩
      by_cases e : g = f
      · subst e; exact H' i (by omega) hi
      · exact H g (by omega) i hi
  exact ⟨13, outer 12 13 0 (by omega) (by omega) (fun g hg => by omega)⟩
theorem ym_unused {T : qt_T} {v : SY} (h : sy_T T v) (hI : qt_iv T) {post : Int32 → Prop} {m : Nat} (hm : ls_f (fun b => ¬ qt_in (qt_rl T) (qt_ro T) b) 16 m) (hp : post (ls_v 16 m)) : wpY_unused post v := by
  obtain ⟨f_active, f_epoch, a_nodeUp, a_journalUp, a_masterUp, a_touch, a_log, a_many, a_promise, a_base, a_stamp, a_units, a_unit, a_sort, a_placeOf, a_client, a_rowLength, a_row, a_closedWith, a_stampOf⟩ := v
  refine ⟨17, lq_s (fun n d => wY_unused_2 post f_active f_epoch a_nodeUp a_journalUp a_masterUp a_touch a_log a_many a_promise a_base a_stamp a_units a_unit a_sort a_placeOf a_client a_rowLength a_row a_closedWith a_stampOf n (nI d)) 16 m hm.1 (fun n e => ?_) (fun n hlt => ?_) (fun n d hd H => ?_) 17 0 (by omega) (by omega)⟩
  · subst e
    rw [ls_vN] at hp
    exact br_t lb_t hp
  · rw [ls_vS hlt] at hp
    exact br_f (lb_f hlt) (ym_inRow (v := (f_active, f_epoch, a_nodeUp, a_journalUp, a_masterUp, a_touch, a_log, a_many, a_promise, a_base, a_stamp, a_units, a_unit, a_sort, a_placeOf, a_client, a_rowLength, a_row, a_closedWith, a_stampOf)) h hI hlt (fun z => absurd z (hm.2.2 hlt)) (fun _ => br_t rfl hp))
  · have hlt : d < 16 := by have := hm.1; omega
    exact br_f (lb_f hlt) (ym_inRow (v := (f_active, f_epoch, a_nodeUp, a_journalUp, a_masterUp, a_touch, a_log, a_many, a_promise, a_base, a_stamp, a_units, a_unit, a_sort, a_placeOf, a_client, a_rowLength, a_row, a_closedWith, a_stampOf)) h hI hlt (fun _ => br_f bo_1 (nm_r (nI_1 d) H)) (fun z => absurd z (hm.2.1 d hd)))
theorem ym_isOpenLast {T : qt_T} {v : SY} (h : sy_T T v) (hI : qt_iv T) {post : Int32 → Prop} {b : Nat} (hb : b < 16) (h1 : qt_ol T b → post 1) (h0 : ¬ qt_ol T b → post 0) : wpY_isOpenLast post v (nI b) := by
  obtain ⟨f_active, f_epoch, a_nodeUp, a_journalUp, a_masterUp, a_touch, a_log, a_many, a_promise, a_base, a_stamp, a_units, a_unit, a_sort, a_placeOf, a_client, a_rowLength, a_row, a_closedWith, a_stampOf⟩ := v
  have outer : ∀ k n f, f + k = 12 → k < n → (∀ g, g < f → qt_so T g = 2 → 0 < qt_rl T g → qt_ro T (3 * g + (qt_rl T g - 1)) ≠ b) → wY_isOpenLast_2 post (nI b) f_active f_epoch a_nodeUp a_journalUp a_masterUp a_touch a_log a_many a_promise a_base a_stamp a_units a_unit a_sort a_placeOf a_client a_rowLength a_row a_closedWith a_stampOf n (nI f) := by
    intro k
    induction k with
    | zero =>
      intro n f hf hn H
      obtain ⟨n, rfl⟩ : ∃ n', n = n' + 1 := ⟨n - 1, by omega⟩
      have e : f = 12 := by omega
      subst e
      exact br_t lb_t (h0 (fun ⟨g, hg, z1, z2, z3⟩ => H g hg z1 z2 z3))
    | succ k ih =>
      intro n f hf hn H
      obtain ⟨n, rfl⟩ : ∃ n', n = n' + 1 := ⟨n - 1, by omega⟩
      have hf' : f < 12 := by omega
      have hs3 := qt_iv3 hI f hf'
      have go : (qt_so T f = 2 → 0 < qt_rl T f → qt_ro T (3 * f + (qt_rl T f - 1)) ≠ b) → wY_isOpenLast_2 post (nI b) f_active f_epoch a_nodeUp a_journalUp a_masterUp a_touch a_log a_many a_promise a_base a_stamp a_units a_unit a_sort a_placeOf a_client a_rowLength a_row a_closedWith a_stampOf n (nI (f + 1)) := by
        intro z
        refine ih n (f + 1) (by omega) (by omega) (fun g hg => ?_)
        by_cases e : g = f
        · subst e; exact z
        · exact H g (by omega)
      refine br_f (lb_f hf') (ym_last (v := (f_active, f_epoch, a_nodeUp, a_journalUp, a_masterUp, a_touch, a_log, a_many, a_promise, a_base, a_stamp, a_units, a_unit, a_sort, a_placeOf, a_client, a_rowLength, a_row, a_closedWith, a_stampOf)) h hI hf' (fun z => ⟨vp_in_nI hf' (by decide), cd_if (cd_e (c := 2) (qt_ag1 h f hf') (by omega) (by omega) (by decide)) (fun hs => br_f (fun y => ix_m1 (n := b) (by omega) y.symm) (nm_r (nI_1 f) (go (fun _ y => by omega)))) (fun hs => nm_r (nI_1 f) (go (fun y => absurd y hs)))⟩) (fun z => ⟨vp_in_nI hf' (by decide), cd_if (cd_e (c := 2) (qt_ag1 h f hf') (by omega) (by omega) (by decide)) (fun hs => ?_) (fun hs => nm_r (nI_1 f) (go (fun y => absurd y hs)))⟩))
      have h5 := qt_iv5 hI f (qt_rl T f - 1) hf' (by omega)
      exact cd_if (nI_eq (by omega) (by omega)) (fun y => h1 ⟨f, hf', hs, z, y⟩) (fun y => nm_r (nI_1 f) (go (fun _ _ => y)))
  exact ⟨13, outer 12 13 0 (by omega) (by omega) (fun g hg => by omega)⟩
