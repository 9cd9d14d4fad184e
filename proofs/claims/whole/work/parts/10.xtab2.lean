/-! reading the tables: the component, loops -/
theorem mu_r (D K N : Nat) : nI D * nI K + nI N = nI (K * D + N) := by rw [pk_mul, nI_add, Nat.mul_comm]
theorem mu_l (D K N : Nat) : nI K * nI D + nI N = nI (K * D + N) := by rw [pk_mul, nI_add]
theorem lb_f {d N : Nat} (h : d < N) (hN : N < 2 ^ 31 := by decide) : ¬ nI N ≤ nI d := nI_ge h hN
theorem lb_t {N : Nat} : nI N ≤ nI N := Int32.le_refl _
theorem ls_vS {N m : Nat} (h : m < N) : ls_v N m = nI m := if_pos h
theorem ls_vN {N : Nat} : ls_v N N = -1 := if_neg (Nat.lt_irrefl N)
theorem xm_inodeAt {T : qt_T} {u : SX} (h : sx_T T u) (hI : qt_iv T) {post : Int32 → Prop} {D N m : Nat} (hD : D < 12) (hN : N < 8) (hm : ls_f (fun i => 1 ≤ i ∧ qt_so T i ≠ 0 ∧ qt_pl T i = 8 * D + N + 1) 12 m) (hp : post (ls_v 12 m)) : wpX_inodeAt post u (nI D) (nI N) := by
  obtain ⟨f_active, f_epoch, a_dataNodeDown, a_journalDown, a_masterDown, a_inTouch, a_promise, a_base, a_logLength, a_logEpoch, a_logKind, a_logA, a_logB, a_logC, a_inodeState, a_inodePlace, a_inodeClient, a_closeUnits, a_rowLength, a_rowBlock, a_blockStamp, a_replicaHeld, a_replicaStamp, a_unitCount, a_unitValue⟩ := u
  refine nm_r (mu_r D 8 N) ⟨13, lq_s (fun n d => wX_inodeAt_10 post (nI (8 * D + N)) f_active f_epoch a_dataNodeDown a_journalDown a_masterDown a_inTouch a_promise a_base a_logLength a_logEpoch a_logKind a_logA a_logB a_logC a_inodeState a_inodePlace a_inodeClient a_closeUnits a_rowLength a_rowBlock a_blockStamp a_replicaHeld a_replicaStamp a_unitCount a_unitValue n (nI d)) 12 m hm.1 (fun n e => ?_) (fun n hlt => ?_) (fun n d hd H => ?_) 13 0 (by omega) (by omega)⟩
  · subst e
    rw [ls_vN] at hp
    exact br_t lb_t hp
  · have hb := qt_iv3 hI m hlt
    obtain ⟨p1, p2, p3⟩ := hm.2.2 hlt
    rw [ls_vS hlt] at hp
    exact br_f (lb_f hlt) ⟨vp_in_nI hlt (by decide), br_f ((not_congr (cd_e (c := 0) (qt_ag1 h m hlt) (by omega) (by omega) (by decide))).mpr p2) ⟨vp_in_nI hlt (by decide), br_t ((cd_me (qt_ag2 h m hlt) (by omega) (by omega) (by omega)).mpr p3) hp⟩⟩
  · have hlt : d < 12 := by have := hm.1; omega
    have hb := qt_iv3 hI d hlt
    have hnp := hm.2.1 d hd
    refine br_f (lb_f hlt) ⟨vp_in_nI hlt (by decide), cd_if (cd_e (c := 0) (qt_ag1 h d hlt) (by omega) (by omega) (by decide)) (fun z => nm_r (nI_1 d) H) (fun z => ⟨vp_in_nI hlt (by decide), br_f ?_ (nm_r (nI_1 d) H)⟩)⟩
    by_cases h0 : d = 0
    · subst h0
      rw [cd_me (qt_ag2 h 0 hlt) (by omega) (by rw [qt_iv2 hI]; decide) (by omega), qt_iv2 hI]
      omega
    · have hp6 := qt_iv6 hI d (by omega) hlt z
      rw [cd_me (qt_ag2 h d hlt) (by omega) (by omega) (by omega)]
      exact fun y => hnp ⟨by omega, z, y⟩
/-- a name in a directory that is free -/
def qt_fr (T : qt_T) (d x : Nat) : Prop := d < 12 ∧ x < 8 ∧ qt_so T d = 1 ∧ ∀ i, 1 ≤ i → i < 12 → qt_so T i ≠ 0 → qt_pl T i ≠ 8 * d + x + 1
theorem xm_isFreePlace {T : qt_T} {u : SX} (h : sx_T T u) (hI : qt_iv T) {post : Int32 → Prop} {p q : Int32} {d x : Nat} (hd : ix_c p 12 d) (hx : ix_c q 8 x) (h1 : qt_fr T d x → post 1) (h0 : ¬ qt_fr T d x → post 0) : wpX_isFreePlace post u p q := by
  obtain ⟨f_active, f_epoch, a_dataNodeDown, a_journalDown, a_masterDown, a_inTouch, a_promise, a_base, a_logLength, a_logEpoch, a_logKind, a_logA, a_logB, a_logC, a_inodeState, a_inodePlace, a_inodeClient, a_closeUnits, a_rowLength, a_rowBlock, a_blockStamp, a_replicaHeld, a_replicaStamp, a_unitCount, a_unitValue⟩ := u
  unfold wpX_isFreePlace
  refine xm_isDirectory (u := (f_active, f_epoch, a_dataNodeDown, a_journalDown, a_masterDown, a_inTouch, a_promise, a_base, a_logLength, a_logEpoch, a_logKind, a_logA, a_logB, a_logC, a_inodeState, a_inodePlace, a_inodeClient, a_closeUnits, a_rowLength, a_rowBlock, a_blockStamp, a_replicaHeld, a_replicaStamp, a_unitCount, a_unitValue)) h hI hd (fun hlt hs => br_f bo_1 ?_) (fun hs => br_t rfl (h0 (fun z => hs z.1 z.2.2.1)))
  refine ix_t hx rfl (by decide) (fun hl e => ?_) (fun e => h0 (fun z => by have := z.2.1; omega))
  have e' := ix_i hd hlt
  subst e e'
  obtain ⟨m, hm⟩ := ls_ex (fun i => 1 ≤ i ∧ qt_so T i ≠ 0 ∧ qt_pl T i = 8 * d + x + 1) 12
  refine xm_inodeAt (u := (f_active, f_epoch, a_dataNodeDown, a_journalDown, a_masterDown, a_inTouch, a_promise, a_base, a_logLength, a_logEpoch, a_logKind, a_logA, a_logB, a_logC, a_inodeState, a_inodePlace, a_inodeClient, a_closeUnits, a_rowLength, a_rowBlock, a_blockStamp, a_replicaHeld, a_replicaStamp, a_unitCount, a_unitValue)) h hI hlt hl hm ?_
  by_cases hmm : m < 12
  · rw [ls_vS hmm]
    exact br_f (ix_m1 (by omega)) (h0 (fun z => z.2.2.2 m (hm.2.2 hmm).1 hmm (hm.2.2 hmm).2.1 (hm.2.2 hmm).2.2))
  · have e : m = 12 := by have := hm.1; omega
    subst e
    rw [ls_vN]
    exact br_t rfl (h1 ⟨hlt, hl, hs, fun i i1 i2 i3 i4 => hm.2.1 i i2 ⟨i1, i3, i4⟩⟩)
theorem xm_leastAbsentInode {T : qt_T} {u : SX} (h : sx_T T u) (hI : qt_iv T) {post : Int32 → Prop} {m : Nat} (hm : ls_f (fun i => qt_so T i = 0) 12 m) (hp : post (ls_v 12 m)) : wpX_leastAbsentInode post u := by
  obtain ⟨f_active, f_epoch, a_dataNodeDown, a_journalDown, a_masterDown, a_inTouch, a_promise, a_base, a_logLength, a_logEpoch, a_logKind, a_logA, a_logB, a_logC, a_inodeState, a_inodePlace, a_inodeClient, a_closeUnits, a_rowLength, a_rowBlock, a_blockStamp, a_replicaHeld, a_replicaStamp, a_unitCount, a_unitValue⟩ := u
  refine ⟨13, lq_s (fun n d => wX_leastAbsentInode_2 post f_active f_epoch a_dataNodeDown a_journalDown a_masterDown a_inTouch a_promise a_base a_logLength a_logEpoch a_logKind a_logA a_logB a_logC a_inodeState a_inodePlace a_inodeClient a_closeUnits a_rowLength a_rowBlock a_blockStamp a_replicaHeld a_replicaStamp a_unitCount a_unitValue n (nI d)) 12 m hm.1 (fun n e => ?_) (fun n hlt => ?_) (fun n d hd H => ?_) 13 0 (by omega) (by omega)⟩
  · subst e
    rw [ls_vN] at hp
    exact br_t lb_t hp
  · have hb := qt_iv3 hI m hlt
    rw [ls_vS hlt] at hp
    exact br_f (lb_f hlt) ⟨vp_in_nI hlt (by decide), br_t ((cd_e (c := 0) (qt_ag1 h m hlt) (by omega) (by omega) (by decide)).mpr (hm.2.2 hlt)) hp⟩
  · have hlt : d < 12 := by have := hm.1; omega
    have hb := qt_iv3 hI d hlt
    exact br_f (lb_f hlt) ⟨vp_in_nI hlt (by decide), br_f ((not_congr (cd_e (c := 0) (qt_ag1 h d hlt) (by omega) (by omega) (by decide))).mpr (hm.2.1 d hd)) (nm_r (nI_1 d) H)⟩
theorem xm_directoryOf {T : qt_T} {u : SX} (h : sx_T T u) (hI : qt_iv T) {post : Int32 → Prop} {d : Nat} (hd : d < 12) (hs : qt_so T d ≠ 0) (h0 : d = 0 → post (-1)) (h1 : 1 ≤ d → post (nI (qt_pa (qt_pl T) d))) : wpX_directoryOf post u (nI d) := by
  obtain ⟨f_active, f_epoch, a_dataNodeDown, a_journalDown, a_masterDown, a_inTouch, a_promise, a_base, a_logLength, a_logEpoch, a_logKind, a_logA, a_logB, a_logC, a_inodeState, a_inodePlace, a_inodeClient, a_closeUnits, a_rowLength, a_rowBlock, a_blockStamp, a_replicaHeld, a_replicaStamp, a_unitCount, a_unitValue⟩ := u
  by_cases hz : d = 0
  · subst hz
    exact ⟨vp_in_nI hd (by decide), br_t ((cd_m1 (qt_ag2 h 0 hd) (by omega) (by rw [qt_iv2 hI]; decide)).mpr (qt_iv2 hI)) (h0 rfl)⟩
  · have h6 := qt_iv6 hI d (by omega) hd hs
    refine ⟨vp_in_nI hd (by decide), br_f ?_ ⟨vp_in_nI hd (by decide), by decide, ?_⟩⟩
    · rw [cd_m1 (qt_ag2 h d hd) (by omega) (by omega)]; omega
    · have e : a_inodePlace (nI d).toNatClampNeg / 8 = nI (qt_pa (qt_pl T) d) := by
        rw [nI_clamp (by omega), qt_ag2 h d hd]
        obtain ⟨p, hp⟩ : ∃ p, qt_pl T d = p + 1 := ⟨qt_pl T d - 1, by omega⟩
        unfold qt_pa
        rw [hp, qt_ms]
        exact pk_div (d := 8) (by omega) (by decide) (by decide)
      rw [e]
      exact h1 (by omega)
def qt_ef (T : qt_T) (D : Nat) (i : Nat) : Bool := decide (1 ≤ i ∧ qt_so T i ≠ 0 ∧ qt_pa (qt_pl T) i = D)
theorem rd_cnS (f : Nat → Bool) (n : Nat) : rd_cn f (n + 1) = rd_cn f n + (if f n then 1 else 0) := rfl
theorem rd_cnT {f : Nat → Bool} {n : Nat} (h : f n = true) : nI (rd_cn f n) + 1 = nI (rd_cn f (n + 1)) := by rw [rd_cnS, h, nI_1]; rfl
theorem rd_cnF {f : Nat → Bool} {n : Nat} (h : f n = false) : rd_cn f (n + 1) = rd_cn f n := by rw [rd_cnS, h]; rfl
theorem xm_countEntries {T : qt_T} {u : SX} (h : sx_T T u) (hI : qt_iv T) {post : Int32 → Prop} {D : Nat} (hD : D < 12) (hp : post (nI (rd_cn (qt_ef T D) 12))) : wpX_countEntries post u (nI D) := by
  obtain ⟨f_active, f_epoch, a_dataNodeDown, a_journalDown, a_masterDown, a_inTouch, a_promise, a_base, a_logLength, a_logEpoch, a_logKind, a_logA, a_logB, a_logC, a_inodeState, a_inodePlace, a_inodeClient, a_closeUnits, a_rowLength, a_rowBlock, a_blockStamp, a_replicaHeld, a_replicaStamp, a_unitCount, a_unitValue⟩ := u
  refine ⟨13, lq_f (fun n d s => wX_countEntries_4 post (nI D) f_active f_epoch a_dataNodeDown a_journalDown a_masterDown a_inTouch a_promise a_base a_logLength a_logEpoch a_logKind a_logA a_logB a_logC a_inodeState a_inodePlace a_inodeClient a_closeUnits a_rowLength a_rowBlock a_blockStamp a_replicaHeld a_replicaStamp a_unitCount a_unitValue n s (nI d)) 12 (fun d => nI (rd_cn (qt_ef T D) d)) (fun n => br_t lb_t hp) (fun n d hd H => ?_) 13 0 (by omega) (by omega)⟩
  have hb := qt_iv3 hI d hd
  have hF : qt_ef T D d = false → wX_countEntries_4 post (nI D) f_active f_epoch a_dataNodeDown a_journalDown a_masterDown a_inTouch a_promise a_base a_logLength a_logEpoch a_logKind a_logA a_logB a_logC a_inodeState a_inodePlace a_inodeClient a_closeUnits a_rowLength a_rowBlock a_blockStamp a_replicaHeld a_replicaStamp a_unitCount a_unitValue n (nI (rd_cn (qt_ef T D) d)) (nI (d + 1)) := by
    intro z
    rw [← rd_cnF z]; exact H
  refine br_f (lb_f hd) ⟨vp_in_nI hd (by decide), cd_if (cd_e (c := 0) (qt_ag1 h d hd) (by omega) (by omega) (by decide)) (fun z => nm_r (nI_1 d) (hF ?_)) (fun z => ?_)⟩
  · unfold qt_ef; exact decide_eq_false (fun y => y.2.1 z)
  · refine xm_directoryOf (u := (f_active, f_epoch, a_dataNodeDown, a_journalDown, a_masterDown, a_inTouch, a_promise, a_base, a_logLength, a_logEpoch, a_logKind, a_logA, a_logB, a_logC, a_inodeState, a_inodePlace, a_inodeClient, a_closeUnits, a_rowLength, a_rowBlock, a_blockStamp, a_replicaHeld, a_replicaStamp, a_unitCount, a_unitValue)) h hI hd z (fun e => br_f ?_ (nm_r (nI_1 d) (hF ?_))) (fun e => ?_)
    · exact fun y => ix_m1 (n := D) (by omega) y.symm
    · unfold qt_ef; exact decide_eq_false (fun y => by omega)
    · have h6 := qt_iv6 hI d e hd z
      have hp : qt_pa (qt_pl T) d < 12 := by unfold qt_pa; omega
      refine cd_if (nI_eq (by omega) (by omega)) (fun y => ?_) (fun y => nm_r (nI_1 d) (hF ?_))
      · have hf : qt_ef T D d = true := by unfold qt_ef; exact decide_eq_true ⟨e, z, y⟩
        exact nm_r (rd_cnT hf) (nm_r (nI_1 d) H)
      · unfold qt_ef; exact decide_eq_false (fun x => y x.2.2)
def qt_rm (T : qt_T) (n : Nat) : Prop := 1 ≤ n ∧ n < 12 ∧ (qt_so T n = 3 ∨ (qt_so T n = 1 ∧ rd_cn (qt_ef T n) 12 = 0))
theorem xm_canBeRemoved {T : qt_T} {u : SX} (h : sx_T T u) (hI : qt_iv T) {post : Int32 → Prop} {i : Int32} {n : Nat} (hn : ix_c i 12 n) (h1 : qt_rm T n → post 1) (h0 : ¬ qt_rm T n → post 0) : wpX_canBeRemoved post u i := by
  obtain ⟨f_active, f_epoch, a_dataNodeDown, a_journalDown, a_masterDown, a_inTouch, a_promise, a_base, a_logLength, a_logEpoch, a_logKind, a_logA, a_logB, a_logC, a_inodeState, a_inodePlace, a_inodeClient, a_closeUnits, a_rowLength, a_rowBlock, a_blockStamp, a_replicaHeld, a_replicaStamp, a_unitCount, a_unitValue⟩ := u
  unfold wpX_canBeRemoved
  refine xm_isPresent (u := (f_active, f_epoch, a_dataNodeDown, a_journalDown, a_masterDown, a_inTouch, a_promise, a_base, a_logLength, a_logEpoch, a_logKind, a_logA, a_logB, a_logC, a_inodeState, a_inodePlace, a_inodeClient, a_closeUnits, a_rowLength, a_rowBlock, a_blockStamp, a_replicaHeld, a_replicaStamp, a_unitCount, a_unitValue)) h hI hn (fun hlt hs => br_f bo_1 ?_) (fun hs => br_t rfl (h0 (fun z => by have := hs z.2.1; rcases z.2.2 with y | y <;> omega)))
  have e := ix_i hn hlt
  subst e
  have hb := qt_iv3 hI n hlt
  refine cd_if (nI_eq (b := 0) (by omega) (by decide)) (fun z => h0 (fun y => by have := y.1; omega)) (fun z => ⟨vp_in_nI hlt (by decide), cd_if (cd_e (c := 2) (qt_ag1 h n hlt) (by omega) (by omega) (by decide)) (fun y => h0 (fun x => by rcases x.2.2 with w | w <;> omega)) (fun y => ⟨vp_in_nI hlt (by decide), cd_if (cd_e (c := 3) (qt_ag1 h n hlt) (by omega) (by omega) (by decide)) (fun x => h1 ⟨by omega, hlt, Or.inl x⟩) (fun x => ?_)⟩)⟩)
  have hc := rd_cnL (qt_ef T n) 12
  refine xm_countEntries (u := (f_active, f_epoch, a_dataNodeDown, a_journalDown, a_masterDown, a_inTouch, a_promise, a_base, a_logLength, a_logEpoch, a_logKind, a_logA, a_logB, a_logC, a_inodeState, a_inodePlace, a_inodeClient, a_closeUnits, a_rowLength, a_rowBlock, a_blockStamp, a_replicaHeld, a_replicaStamp, a_unitCount, a_unitValue)) h hI hlt (cd_if (nI_eq (b := 0) (by omega) (by decide)) (fun w => h1 ⟨by omega, hlt, Or.inr ⟨by omega, w⟩⟩) (fun w => h0 (fun v => ?_)))
  rcases v.2.2 with v | v
  · exact x v
  · exact w v.2
theorem xm_isAtOrBelow {T : qt_T} {u : SX} (h : sx_T T u) (hI : qt_iv T) {post : Int32 → Prop} {D i : Nat} (hD : D < 12) (hs : qt_so T D ≠ 0) (hi : 1 ≤ i) (hi2 : i < 12) (h1 : (∃ n, qt_an (qt_pl T) n D = i) → post 1) (h0 : (∀ n, qt_an (qt_pl T) n D ≠ i) → post 0) : wpX_isAtOrBelow post u (nI D) (nI i) := by
  obtain ⟨f_active, f_epoch, a_dataNodeDown, a_journalDown, a_masterDown, a_inTouch, a_promise, a_base, a_logLength, a_logEpoch, a_logKind, a_logA, a_logB, a_logC, a_inodeState, a_inodePlace, a_inodeClient, a_closeUnits, a_rowLength, a_rowBlock, a_blockStamp, a_replicaHeld, a_replicaStamp, a_unitCount, a_unitValue⟩ := u
  obtain ⟨r, hr, hb⟩ := qt_iv7 hI
  have key : ∀ k n s x, s + k = 12 → r x < k → k + 1 < n → x < 12 → qt_so T x ≠ 0 → ((∃ n, qt_an (qt_pl T) n x = i) → post 1) → ((∀ n, qt_an (qt_pl T) n x ≠ i) → post 0) → wX_isAtOrBelow_5 post (nI i) f_active f_epoch a_dataNodeDown a_journalDown a_masterDown a_inTouch a_promise a_base a_logLength a_logEpoch a_logKind a_logA a_logB a_logC a_inodeState a_inodePlace a_inodeClient a_closeUnits a_rowLength a_rowBlock a_blockStamp a_replicaHeld a_replicaStamp a_unitCount a_unitValue n (nI x) (nI s) := by
    intro k
    induction k with
    | zero => intro n s x _ h; omega
    | succ k ih =>
      intro n s x hs hrx hn hx hsx k1 k0
      obtain ⟨n, rfl⟩ : ∃ n', n = n' + 1 := ⟨n - 1, by omega⟩
      refine br_f (lb_f (N := 12) (by omega)) (br_f (ix_m1 (by omega)) (cd_if (nI_eq (by omega) (by omega)) (fun e => k1 ⟨0, e⟩) (fun ne => ?_)))
      refine xm_directoryOf (u := (f_active, f_epoch, a_dataNodeDown, a_journalDown, a_masterDown, a_inTouch, a_promise, a_base, a_logLength, a_logEpoch, a_logKind, a_logA, a_logB, a_logC, a_inodeState, a_inodePlace, a_inodeClient, a_closeUnits, a_rowLength, a_rowBlock, a_blockStamp, a_replicaHeld, a_replicaStamp, a_unitCount, a_unitValue)) h hI hx hsx (fun e => nm_r (nI_1 s) ?_) (fun e => nm_r (nI_1 s) ?_)
      · obtain ⟨n, rfl⟩ : ∃ n', n = n' + 1 := ⟨n - 1, by omega⟩
        have hz : post 0 := by
          refine k0 (fun n hn => ?_)
          have hz : ∀ n, qt_an (qt_pl T) n 0 = 0 := by
            intro n
            induction n with
            | zero => rfl
            | succ n ih =>
              rw [qt_anS, show qt_pa (qt_pl T) 0 = 0 by unfold qt_pa; rw [qt_iv2 hI]]
              exact ih
          rw [e, hz] at hn
          omega
        exact br_c (fun _ => hz) (fun _ => br_t rfl hz)
      · have h6 := qt_iv6 hI x e hx hsx
        refine ih n (s + 1) (qt_pa (qt_pl T) x) (by omega) ?_ (by omega) (by unfold qt_pa; omega) (by rw [h6.2.2]; decide) (fun ⟨n, hn⟩ => k1 ⟨n + 1, hn⟩) (fun hn => k0 (fun n => ?_))
        · have := hr x e hx hsx; omega
        · cases n with
          | zero => exact ne
          | succ n => exact hn n
  have := hb D hD
  exact ⟨14, key 12 14 0 D (by omega) this (by omega) hD hs h1 h0⟩
theorem xm_countInodes {T : qt_T} {u : SX} (h : sx_T T u) (hI : qt_iv T) {post : Int32 → Prop} (hp : post (nI (rd_cn (fun i => decide (qt_so T i ≠ 0)) 12))) : wpX_countInodes post u := by
  obtain ⟨f_active, f_epoch, a_dataNodeDown, a_journalDown, a_masterDown, a_inTouch, a_promise, a_base, a_logLength, a_logEpoch, a_logKind, a_logA, a_logB, a_logC, a_inodeState, a_inodePlace, a_inodeClient, a_closeUnits, a_rowLength, a_rowBlock, a_blockStamp, a_replicaHeld, a_replicaStamp, a_unitCount, a_unitValue⟩ := u
  refine ⟨13, lq_f (fun n d s => wX_countInodes_4 post f_active f_epoch a_dataNodeDown a_journalDown a_masterDown a_inTouch a_promise a_base a_logLength a_logEpoch a_logKind a_logA a_logB a_logC a_inodeState a_inodePlace a_inodeClient a_closeUnits a_rowLength a_rowBlock a_blockStamp a_replicaHeld a_replicaStamp a_unitCount a_unitValue n s (nI d)) 12 (fun d => nI (rd_cn (fun i => decide (qt_so T i ≠ 0)) d)) (fun n => br_t lb_t hp) (fun n d hd H => ?_) 13 0 (by omega) (by omega)⟩
  have hb := qt_iv3 hI d hd
  refine br_f (lb_f hd) ⟨vp_in_nI hd (by decide), cd_if (cd_e (c := 0) (qt_ag1 h d hd) (by omega) (by omega) (by decide)) (fun z => nm_r (nI_1 d) ?_) (fun z => nm_r (rd_cnT (f := fun i => decide (qt_so T i ≠ 0)) (decide_eq_true z)) (nm_r (nI_1 d) H))⟩
  rw [← rd_cnF (f := fun i => decide (qt_so T i ≠ 0)) (decide_eq_false (fun y => y z))]
  exact H
theorem xm_lastBlock {T : qt_T} {u : SX} (h : sx_T T u) (hI : qt_iv T) {post : Int32 → Prop} {f : Nat} (hf : f < 12) (h0 : qt_rl T f = 0 → post (-1)) (h1 : 0 < qt_rl T f → post (nI (qt_ro T (3 * f + (qt_rl T f - 1))))) : wpX_lastBlock post u (nI f) := by
  obtain ⟨f_active, f_epoch, a_dataNodeDown, a_journalDown, a_masterDown, a_inTouch, a_promise, a_base, a_logLength, a_logEpoch, a_logKind, a_logA, a_logB, a_logC, a_inodeState, a_inodePlace, a_inodeClient, a_closeUnits, a_rowLength, a_rowBlock, a_blockStamp, a_replicaHeld, a_replicaStamp, a_unitCount, a_unitValue⟩ := u
  have hb := qt_iv4 hI f hf
  refine ⟨vp_in_nI hf (by decide), cd_if (cd_e (c := 0) (qt_ag5 h f hf) (by omega) (by omega) (by decide)) h0 (fun z => ⟨vp_in_nI hf (by decide), ?_⟩)⟩
  have e : nI f * 3 + a_rowLength (nI f).toNatClampNeg - 1 = nI (3 * f + (qt_rl T f - 1)) := by
    rw [nI_clamp (by omega), qt_ag5 h f hf, show (3 : Int32) = nI 3 from rfl, mu_r, show 3 * f + qt_rl T f = (3 * f + (qt_rl T f - 1)) + 1 by omega, nI_pred]
  rw [e]
  refine ⟨vp_in_nI (by omega) (by decide), ?_⟩
  rw [nI_clamp (by omega), qt_ag6 h f (qt_rl T f - 1) hf (by omega)]
  exact h1 (by omega)
theorem xm_isInRow {T : qt_T} {u : SX} (h : sx_T T u) (hI : qt_iv T) {post : Int32 → Prop} {b : Nat} (hb : b < 16) (h1 : qt_in (qt_rl T) (qt_ro T) b → post 1) (h0 : ¬ qt_in (qt_rl T) (qt_ro T) b → post 0) : wpX_isInRow post u (nI b) := by
  obtain ⟨f_active, f_epoch, a_dataNodeDown, a_journalDown, a_masterDown, a_inTouch, a_promise, a_base, a_logLength, a_logEpoch, a_logKind, a_logA, a_logB, a_logC, a_inodeState, a_inodePlace, a_inodeClient, a_closeUnits, a_rowLength, a_rowBlock, a_blockStamp, a_replicaHeld, a_replicaStamp, a_unitCount, a_unitValue⟩ := u
  have inner : ∀ (J : Int32 → Prop) f, f < 12 → ∀ k n j, j + k = qt_rl T f → k < n → ((∀ i, j ≤ i → i < qt_rl T f → qt_ro T (3 * f + i) ≠ b) → J (nI (f + 1))) → wX_isInRow_18 post J (nI b) (nI f) (nI (qt_rl T f)) f_active f_epoch a_dataNodeDown a_journalDown a_masterDown a_inTouch a_promise a_base a_logLength a_logEpoch a_logKind a_logA a_logB a_logC a_inodeState a_inodePlace a_inodeClient a_closeUnits a_rowLength a_rowBlock a_blockStamp a_replicaHeld a_replicaStamp a_unitCount a_unitValue n (nI j) := by
    intro J f hf k
    have hr := qt_iv4 hI f hf
    induction k with
    | zero =>
      intro n j hj hn HJ
      obtain ⟨n, rfl⟩ : ∃ n', n = n' + 1 := ⟨n - 1, by omega⟩
      have e : j = qt_rl T f := by omega
      subst e
      exact br_t lb_t (nm_r (nI_1 f) (HJ (fun i a b => by omega)))
    | succ k ih =>
      intro n j hj hn HJ
      obtain ⟨n, rfl⟩ : ∃ n', n = n' + 1 := ⟨n - 1, by omega⟩
      have h5 := qt_iv5 hI f j hf (by omega)
      refine br_f (lb_f (by omega) (by omega)) ?_
      rw [show nI f * 3 + nI j = nI (3 * f + j) from mu_r f 3 j]
      refine ⟨vp_in_nI (by omega) (by decide), cd_if (cd_e (qt_ag6 h f j hf (by omega)) (by omega) (by omega) (by omega)) (fun z => h1 ⟨f, j, hf, by omega, z⟩) (fun z => nm_r (nI_1 j) (ih n (j + 1) (by omega) (by omega) (fun H => HJ (fun i a b => ?_))))⟩
      by_cases e : i = j
      · subst e; exact z
      · exact H i (by omega) b
  have outer : ∀ k n f, f + k = 12 → k < n → (∀ g, g < f → ∀ i, i < qt_rl T g → qt_ro T (3 * g + i) ≠ b) → wX_isInRow_2 post (nI b) f_active f_epoch a_dataNodeDown a_journalDown a_masterDown a_inTouch a_promise a_base a_logLength a_logEpoch a_logKind a_logA a_logB a_logC a_inodeState a_inodePlace a_inodeClient a_closeUnits a_rowLength a_rowBlock a_blockStamp a_replicaHeld a_replicaStamp a_unitCount a_unitValue n (nI f) := by
    intro k
    induction k with
    | zero =>
      intro n f hf hn H
      obtain ⟨n, rfl⟩ : ∃ n', n = n' + 1 := ⟨n - 1, by omega⟩
      have e : f = 12 := by omega
      subst e
      exact br_t lb_t (h0 (fun ⟨g, i, hg, hi, z⟩ => H g hg i hi z))
    | succ k ih =>
      intro n f hf hn H
      obtain ⟨n, rfl⟩ : ∃ n', n = n' + 1 := ⟨n - 1, by omega⟩
      have hf' : f < 12 := by omega
      have hr := qt_iv4 hI f hf'
      refine br_f (lb_f hf') ⟨vp_in_nI hf' (by decide), nm_r (e' := nI (qt_rl T f)) (by rw [nI_clamp (by omega)]; exact qt_ag5 h f hf') ⟨4, inner _ f hf' (qt_rl T f) 4 0 (by omega) (by omega) (fun H' => ih n (f + 1) (by omega) (by omega) (fun g hg i hi => ?_))⟩⟩
      by_cases e : g = f
      · subst e; exact H' i (by omega) hi
      · exact H g (by omega) i hi
  exact ⟨13, outer 12 13 0 (by omega) (by omega) (fun g hg => by omega)⟩
theorem xm_leastFreeBlock {T : qt_T} {u : SX} (h : sx_T T u) (hI : qt_iv T) {post : Int32 → Prop} {m : Nat} (hm : ls_f (fun b => ¬ qt_in (qt_rl T) (qt_ro T) b) 16 m) (hp : post (ls_v 16 m)) : wpX_leastFreeBlock post u := by
  obtain ⟨f_active, f_epoch, a_dataNodeDown, a_journalDown, a_masterDown, a_inTouch, a_promise, a_base, a_logLength, a_logEpoch, a_logKind, a_logA, a_logB, a_logC, a_inodeState, a_inodePlace, a_inodeClient, a_closeUnits, a_rowLength, a_rowBlock, a_blockStamp, a_replicaHeld, a_replicaStamp, a_unitCount, a_unitValue⟩ := u
  refine ⟨17, lq_s (fun n d => wX_leastFreeBlock_2 post f_active f_epoch a_dataNodeDown a_journalDown a_masterDown a_inTouch a_promise a_base a_logLength a_logEpoch a_logKind a_logA a_logB a_logC a_inodeState a_inodePlace a_inodeClient a_closeUnits a_rowLength a_rowBlock a_blockStamp a_replicaHeld a_replicaStamp a_unitCount a_unitValue n (nI d)) 16 m hm.1 (fun n e => ?_) (fun n hlt => ?_) (fun n d hd H => ?_) 17 0 (by omega) (by omega)⟩
  · subst e
    rw [ls_vN] at hp
    exact br_t lb_t hp
  · rw [ls_vS hlt] at hp
    exact br_f (lb_f hlt) (xm_isInRow (u := (f_active, f_epoch, a_dataNodeDown, a_journalDown, a_masterDown, a_inTouch, a_promise, a_base, a_logLength, a_logEpoch, a_logKind, a_logA, a_logB, a_logC, a_inodeState, a_inodePlace, a_inodeClient, a_closeUnits, a_rowLength, a_rowBlock, a_blockStamp, a_replicaHeld, a_replicaStamp, a_unitCount, a_unitValue)) h hI hlt (fun z => absurd z (hm.2.2 hlt)) (fun _ => br_t rfl hp))
  · have hlt : d < 16 := by have := hm.1; omega
    exact br_f (lb_f hlt) (xm_isInRow (u := (f_active, f_epoch, a_dataNodeDown, a_journalDown, a_masterDown, a_inTouch, a_promise, a_base, a_logLength, a_logEpoch, a_logKind, a_logA, a_logB, a_logC, a_inodeState, a_inodePlace, a_inodeClient, a_closeUnits, a_rowLength, a_rowBlock, a_blockStamp, a_replicaHeld, a_replicaStamp, a_unitCount, a_unitValue)) h hI hlt (fun _ => br_f bo_1 (nm_r (nI_1 d) H)) (fun z => absurd z (hm.2.1 d hd)))
theorem xm_isLastOfOpenFile {T : qt_T} {u : SX} (h : sx_T T u) (hI : qt_iv T) {post : Int32 → Prop} {b : Nat} (hb : b < 16) (h1 : qt_ol T b → post 1) (h0 : ¬ qt_ol T b → post 0) : wpX_isLastOfOpenFile post u (nI b) := by
  obtain ⟨f_active, f_epoch, a_dataNodeDown, a_journalDown, a_masterDown, a_inTouch, a_promise, a_base, a_logLength, a_logEpoch, a_logKind, a_logA, a_logB, a_logC, a_inodeState, a_inodePlace, a_inodeClient, a_closeUnits, a_rowLength, a_rowBlock, a_blockStamp, a_replicaHeld, a_replicaStamp, a_unitCount, a_unitValue⟩ := u
  have outer : ∀ k n f, f + k = 12 → k < n → (∀ g, g < f → qt_so T g = 2 → 0 < qt_rl T g → qt_ro T (3 * g + (qt_rl T g - 1)) ≠ b) → wX_isLastOfOpenFile_2 post (nI b) f_active f_epoch a_dataNodeDown a_journalDown a_masterDown a_inTouch a_promise a_base a_logLength a_logEpoch a_logKind a_logA a_logB a_logC a_inodeState a_inodePlace a_inodeClient a_closeUnits a_rowLength a_rowBlock a_blockStamp a_replicaHeld a_replicaStamp a_unitCount a_unitValue n (nI f) := by
    intro k
    induction k with
    | zero =>
      intro n f hf hn H
      obtain ⟨n, rfl⟩ : ∃ n', n = n' + 1 := ⟨n - 1, by omega⟩
      have e : f = 12 := by omega
      subst e
      exact br_t lb_t (h0 (fun ⟨g, hg, z1, z2, z3⟩ => H g hg z1 z2 z3))
    | succ k ih =>
      intro n f hf hn H
      obtain ⟨n, rfl⟩ : ∃ n', n = n' + 1 := ⟨n - 1, by omega⟩
      have hf' : f < 12 := by omega
      have go : (qt_so T f = 2 → 0 < qt_rl T f → qt_ro T (3 * f + (qt_rl T f - 1)) ≠ b) → wX_isLastOfOpenFile_2 post (nI b) f_active f_epoch a_dataNodeDown a_journalDown a_masterDown a_inTouch a_promise a_base a_logLength a_logEpoch a_logKind a_logA a_logB a_logC a_inodeState a_inodePlace a_inodeClient a_closeUnits a_rowLength a_rowBlock a_blockStamp a_replicaHeld a_replicaStamp a_unitCount a_unitValue n (nI (f + 1)) := by
        intro z
        refine ih n (f + 1) (by omega) (by omega) (fun g hg => ?_)
        by_cases e : g = f
        · subst e; exact z
        · exact H g (by omega)
      refine br_f (lb_f hf') (xm_isOpen (u := (f_active, f_epoch, a_dataNodeDown, a_journalDown, a_masterDown, a_inTouch, a_promise, a_base, a_logLength, a_logEpoch, a_logKind, a_logA, a_logB, a_logC, a_inodeState, a_inodePlace, a_inodeClient, a_closeUnits, a_rowLength, a_rowBlock, a_blockStamp, a_replicaHeld, a_replicaStamp, a_unitCount, a_unitValue)) h hI (n := f) (Or.inl ⟨hf', rfl⟩) (fun _ hs => br_f bo_1 ?_) (fun hs => br_t rfl (nm_r (nI_1 f) (go (fun z => absurd z (hs hf'))))))
      refine xm_lastBlock (u := (f_active, f_epoch, a_dataNodeDown, a_journalDown, a_masterDown, a_inTouch, a_promise, a_base, a_logLength, a_logEpoch, a_logKind, a_logA, a_logB, a_logC, a_inodeState, a_inodePlace, a_inodeClient, a_closeUnits, a_rowLength, a_rowBlock, a_blockStamp, a_replicaHeld, a_replicaStamp, a_unitCount, a_unitValue)) h hI hf' (fun z => br_f (fun y => ix_m1 (n := b) (by omega) y.symm) (nm_r (nI_1 f) (go (fun _ y => by omega)))) (fun z => ?_)
      have h5 := qt_iv5 hI f (qt_rl T f - 1) hf' (by omega)
      exact cd_if (nI_eq (by omega) (by omega)) (fun y => h1 ⟨f, hf', hs, z, y⟩) (fun y => nm_r (nI_1 f) (go (fun _ _ => y)))
  exact ⟨13, outer 12 13 0 (by omega) (by omega) (fun g hg => by omega)⟩
