/-! reading the replicas: the component -/
def rd_bd (D : rd_D) : Prop := match D with | (_, st, un, _) => (∀ c, c < 80 → st c ≤ 2000000) ∧ (∀ c, c < 80 → un c ≤ 8)
theorem rd_mkS (f : Nat → Bool) (n : Nat) : rd_mk f (n + 1) = rd_mk f n + (if f n then 2 ^ n else 0) := rfl
theorem rd_mkZ {f : Nat → Bool} : ∀ {n : Nat}, (∀ d, d < n → f d = false) → rd_mk f n = 0 := by
  intro n
  induction n with
  | zero => intro _; rfl
  | succ n ih =>
    intro h
    rw [rd_mkS, ih (fun d hd => h d (by omega)), h n (by omega)]
    rfl
theorem rd_gmS (nu : Nat → Bool) (st : Nat → Nat) (b n : Nat) : rd_gm nu st b (n + 1) = if nu n = true ∧ rd_gm nu st b n < st (16 * n + b) then st (16 * n + b) else rd_gm nu st b n := rfl
/-- the good ones among the first n -/
def rd_gk (nu : Nat → Bool) (st : Nat → Nat) (b n e : Nat) : Bool := decide (nu e = true ∧ st (16 * e + b) = rd_gm nu st b n ∧ 0 < rd_gm nu st b n)
def rd_gv (nu : Nat → Bool) (st : Nat → Nat) (b n : Nat) : Int32 × Int32 := (qt_m (rd_gm nu st b n), nI (rd_mk (rd_gk nu st b n) n))
theorem rd_gv0 {nu : Nat → Bool} {st : Nat → Nat} {b n : Nat} (h : ¬ (nu n = true ∧ 0 < st (16 * n + b) ∧ rd_gm nu st b n ≤ st (16 * n + b))) : rd_gv nu st b (n + 1) = rd_gv nu st b n := by
  have e : rd_gm nu st b (n + 1) = rd_gm nu st b n := by
    rw [rd_gmS, if_neg]
    intro z
    exact h ⟨z.1, by omega, by omega⟩
  have e2 : rd_gk nu st b (n + 1) = rd_gk nu st b n := by unfold rd_gk; rw [e]
  have e3 : rd_gk nu st b n n = false := by
    unfold rd_gk
    exact decide_eq_false (fun z => h ⟨z.1, by omega, by omega⟩)
  unfold rd_gv
  rw [e, e2, rd_mkS, e3]
  rfl
theorem rd_gv1 {nu : Nat → Bool} {st : Nat → Nat} {b n : Nat} (h1 : nu n = true) (h2 : 0 < st (16 * n + b)) (h3 : rd_gm nu st b n = st (16 * n + b)) : rd_gv nu st b (n + 1) = (qt_m (rd_gm nu st b n), nI (rd_mk (rd_gk nu st b n) n + 2 ^ n)) := by
  have e : rd_gm nu st b (n + 1) = rd_gm nu st b n := by
    rw [rd_gmS, if_neg]
    intro z
    omega
  have e2 : rd_gk nu st b (n + 1) = rd_gk nu st b n := by unfold rd_gk; rw [e]
  have e3 : rd_gk nu st b n n = true := by
    unfold rd_gk
    exact decide_eq_true ⟨h1, h3.symm, by omega⟩
  unfold rd_gv
  rw [e, e2, rd_mkS, e3]
  rfl
theorem rd_gv2 {nu : Nat → Bool} {st : Nat → Nat} {b n : Nat} (h1 : nu n = true) (h3 : rd_gm nu st b n < st (16 * n + b)) : rd_gv nu st b (n + 1) = (qt_m (st (16 * n + b)), nI (0 + 2 ^ n)) := by
  have e : rd_gm nu st b (n + 1) = st (16 * n + b) := by rw [rd_gmS, if_pos ⟨h1, h3⟩]
  have e2 : rd_mk (rd_gk nu st b (n + 1)) n = 0 := by
    refine rd_mkZ (fun d hd => ?_)
    unfold rd_gk
    refine decide_eq_false (fun z => ?_)
    have := rd_gmU (st := st) (b := b) hd z.1
    omega
  have e3 : rd_gk nu st b (n + 1) n = true := by
    unfold rd_gk
    exact decide_eq_true ⟨h1, e.symm, by omega⟩
  unfold rd_gv
  rw [rd_mkS, e2, e3, e]
  rfl
theorem xm_goodNodes {T : qt_T} {nu : Nat → Bool} {st un : Nat → Nat} {ua : Nat → Int32} {u : SX} (h : sx_T T u) (hI : qt_iv T) (hD : sx_D (nu, st, un, ua) u) (hb : rd_bd (nu, st, un, ua)) {post : Int32 → Prop} {b : Nat} (hb16 : b < 16) (hp : post (nI (rd_mk (rd_g nu st b (qt_sp T b)) 5))) : wpX_goodNodes post u (nI b) := by
  obtain ⟨f_active, f_epoch, a_dataNodeDown, a_journalDown, a_masterDown, a_inTouch, a_promise, a_base, a_logLength, a_logEpoch, a_logKind, a_logA, a_logB, a_logC, a_inodeState, a_inodePlace, a_inodeClient, a_closeUnits, a_rowLength, a_rowBlock, a_blockStamp, a_replicaHeld, a_replicaStamp, a_unitCount, a_unitValue⟩ := u
  have h8 := qt_iv8 hI b hb16
  have hB : ∀ n, n ≤ 5 → rd_gm nu st b n ≤ 2000000 := fun n hn => rd_gmB hb16 hb.1 hn
  refine ⟨6, lq_f (fun n d (s : Int32 × Int32) => wX_goodNodes_7 post (nI b) f_active f_epoch a_dataNodeDown a_journalDown a_masterDown a_inTouch a_promise a_base a_logLength a_logEpoch a_logKind a_logA a_logB a_logC a_inodeState a_inodePlace a_inodeClient a_closeUnits a_rowLength a_rowBlock a_blockStamp a_replicaHeld a_replicaStamp a_unitCount a_unitValue n s.1 s.2 (nI d)) 5 (rd_gv nu st b) (fun n => br_t lb_t ⟨vp_in_nI hb16 (by decide), ?_⟩) (fun n d hd H => ?_) 6 0 (by omega) (by omega)⟩
  · have hg := hB 5 (by decide)
    have e : a_blockStamp (nI b).toNatClampNeg = nI (qt_sp T b) := by rw [nI_clamp (by omega)]; exact qt_ag7 h b hb16 (Or.inl trivial)
    rw [e]
    refine cd_if (qt_Nm (a := rd_gm nu st b 5) (by omega) (by omega)) (fun z => ?_) (fun z => ?_)
    · have e2 : rd_mk (rd_gk nu st b 5) 5 = rd_mk (rd_g nu st b (qt_sp T b)) 5 := by
        refine rd_mkC (fun d _ => ?_)
        unfold rd_gk rd_g rd_G
        rw [if_pos z]
        exact decide_eq_decide.mpr ⟨fun y => ⟨y.2.2, y.1, y.2.1⟩, fun y => ⟨y.2.1, y.2.2, y.1⟩⟩
      show post (nI (rd_mk (rd_gk nu st b 5) 5))
      rw [e2]
      exact hp
    · have e2 : rd_mk (rd_g nu st b (qt_sp T b)) 5 = 0 := by
        refine rd_mkZ (fun d _ => ?_)
        unfold rd_g rd_G
        rw [if_neg z]
        exact decide_eq_false (fun y => by omega)
      rw [e2] at hp
      exact hp
  · have hg := hB d (by omega)
    have hc : 16 * d + b < 80 := by omega
    have hs := hb.1 (16 * d + b) hc
    have h0 : ¬ (nu d = true ∧ 0 < st (16 * d + b) ∧ rd_gm nu st b d ≤ st (16 * d + b)) → wX_goodNodes_7 post (nI b) f_active f_epoch a_dataNodeDown a_journalDown a_masterDown a_inTouch a_promise a_base a_logLength a_logEpoch a_logKind a_logA a_logB a_logC a_inodeState a_inodePlace a_inodeClient a_closeUnits a_rowLength a_rowBlock a_blockStamp a_replicaHeld a_replicaStamp a_unitCount a_unitValue n (rd_gv nu st b d).1 (rd_gv nu st b d).2 (nI (d + 1)) := by
      intro z
      rw [← rd_gv0 z]; exact H
    refine br_f (lb_f hd) (nm_r (mu_r d 16 b) ⟨vp_in_nI hd (by decide), cd_if (cd_n (hD.1 d hd) (by omega)) (fun hu => ⟨vp_in_nI hc (by decide), ?_⟩) (fun hu => nm_r (nI_1 d) (h0 (fun z => hu z.1)))⟩)
    have eh : a_replicaHeld (nI (16 * d + b)).toNatClampNeg = 0 ↔ st (16 * d + b) = 0 := by
      rw [nI_clamp (by omega), hD.2.1 _ hc]
      split
      · rename_i z; simp [z]
      · rename_i z; simp [z]
    refine cd_if eh (fun z => nm_r (nI_1 d) (h0 (fun y => by omega))) (fun z => ⟨vp_in_nI hc (by decide), ?_⟩)
    have es : a_replicaStamp (nI (16 * d + b)).toNatClampNeg = qt_m (st (16 * d + b)) := by
      rw [nI_clamp (by omega), hD.2.2.1 _ hc z]
      obtain ⟨s, e⟩ : ∃ s, st (16 * d + b) = s + 1 := ⟨st (16 * d + b) - 1, by omega⟩
      rw [e, qt_ms]; rfl
    rw [es]
    refine cd_if (qt_mle (a := rd_gm nu st b d) (by omega) (by omega)) (fun y => ⟨vp_in_nI hc (by decide), cd_if (qt_mle (b := rd_gm nu st b d) (by omega) (by omega)) (fun x => ?_) (fun x => ⟨vp_in_nI hc (by decide), nm_e ?_⟩)⟩) (fun y => nm_r (nI_1 d) (h0 (fun x => y x.2.2)))
    · have e := rd_gv1 (b := b) hu (by omega) (by omega : rd_gm nu st b d = st (16 * d + b))
      have hl := rd_mkL (rd_gk nu st b d) d
      have hl2 : 2 ^ d ≤ 16 := by
        have : 2 ^ d ≤ 2 ^ 4 := Nat.pow_le_pow_right (by decide) (by omega)
        omega
      refine nm_r (rd_orN d hd _ (by omega) hl) (nm_r (nI_1 d) ?_)
      rw [e] at H
      exact H
    · have e := rd_gv2 (b := b) hu (by omega : rd_gm nu st b d < st (16 * d + b))
      refine nm_r (rd_orN d hd 0 (by decide) (Nat.two_pow_pos d)) (nm_r (nI_1 d) ?_)
      rw [e] at H
      exact H
theorem xm_isIn {u : SX} {f : Nat → Bool} {post : Int32 → Prop} {d : Nat} (hd : d < 5) (h1 : f d = true → post 1) (h0 : f d = false → post 0) : wpX_isIn post u (nI (rd_mk f 5)) (nI d) := by
  obtain ⟨f_active, f_epoch, a_dataNodeDown, a_journalDown, a_masterDown, a_inTouch, a_promise, a_base, a_logLength, a_logEpoch, a_logKind, a_logA, a_logB, a_logC, a_inodeState, a_inodePlace, a_inodeClient, a_closeUnits, a_rowLength, a_rowBlock, a_blockStamp, a_replicaHeld, a_replicaStamp, a_unitCount, a_unitValue⟩ := u
  exact cd_if (rd_b1 f hd) h1 (fun z => h0 (by simpa using z))
theorem xm_firstGoodNode {T : qt_T} {nu : Nat → Bool} {st un : Nat → Nat} {ua : Nat → Int32} {u : SX} (h : sx_T T u) (hI : qt_iv T) (hD : sx_D (nu, st, un, ua) u) (hb : rd_bd (nu, st, un, ua)) {post : Int32 → Prop} {b m : Nat} (hb16 : b < 16) (hm : ls_f (fun d => rd_g nu st b (qt_sp T b) d = true) 5 m) (hp : post (ls_v 5 m)) : wpX_firstGoodNode post u (nI b) := by
  obtain ⟨f_active, f_epoch, a_dataNodeDown, a_journalDown, a_masterDown, a_inTouch, a_promise, a_base, a_logLength, a_logEpoch, a_logKind, a_logA, a_logB, a_logC, a_inodeState, a_inodePlace, a_inodeClient, a_closeUnits, a_rowLength, a_rowBlock, a_blockStamp, a_replicaHeld, a_replicaStamp, a_unitCount, a_unitValue⟩ := u
  unfold wpX_firstGoodNode
  refine xm_goodNodes (u := (f_active, f_epoch, a_dataNodeDown, a_journalDown, a_masterDown, a_inTouch, a_promise, a_base, a_logLength, a_logEpoch, a_logKind, a_logA, a_logB, a_logC, a_inodeState, a_inodePlace, a_inodeClient, a_closeUnits, a_rowLength, a_rowBlock, a_blockStamp, a_replicaHeld, a_replicaStamp, a_unitCount, a_unitValue)) h hI hD hb hb16 ?_
  refine ⟨6, lq_s (fun n d => wX_firstGoodNode_8 post (nI (rd_mk (rd_g nu st b (qt_sp T b)) 5)) f_active f_epoch a_dataNodeDown a_journalDown a_masterDown a_inTouch a_promise a_base a_logLength a_logEpoch a_logKind a_logA a_logB a_logC a_inodeState a_inodePlace a_inodeClient a_closeUnits a_rowLength a_rowBlock a_blockStamp a_replicaHeld a_replicaStamp a_unitCount a_unitValue n (nI d)) 5 m hm.1 (fun n e => ?_) (fun n hlt => ?_) (fun n d hd H => ?_) 6 0 (by omega) (by omega)⟩
  · subst e
    rw [ls_vN] at hp
    exact br_t lb_t hp
  · rw [ls_vS hlt] at hp
    have z := hm.2.2 hlt
    exact br_f (lb_f hlt) (xm_isIn hlt (fun _ => br_f bo_1 hp) (fun y => absurd (y.symm.trans z) (by decide)))
  · have hlt : d < 5 := by have := hm.1; omega
    have z := hm.2.1 d hd
    exact br_f (lb_f hlt) (xm_isIn hlt (fun y => absurd y z) (fun _ => br_t rfl (nm_r (nI_1 d) H)))
def rd_hg (nu : Nat → Bool) (st : Nat → Nat) (b s : Nat) : Prop := ∃ d, d < 5 ∧ 0 < rd_G nu st b s ∧ nu d = false ∧ st (16 * d + b) = rd_G nu st b s
theorem xm_held {st : Nat → Nat} {a : Nat → Int32} {c : Nat} (h : ∀ c, c < 80 → a c = if st c = 0 then 0 else 1) (hc : c < 80) : a (nI c).toNatClampNeg = 0 ↔ st c = 0 := by
  rw [nI_clamp (by omega), h _ hc]
  split
  · rename_i z; simp [z]
  · rename_i z; simp [z]
theorem xm_stamp {st : Nat → Nat} {a : Nat → Int32} {c : Nat} (h : ∀ c, c < 80 → st c ≠ 0 → a c = nI (st c - 1)) (hc : c < 80) (z : st c ≠ 0) : a (nI c).toNatClampNeg = qt_m (st c) := by
  rw [nI_clamp (by omega), h _ hc z]
  obtain ⟨s, e⟩ : ∃ s, st c = s + 1 := ⟨st c - 1, by omega⟩
  rw [e, qt_ms]; rfl
theorem xm_hangs {T : qt_T} {nu : Nat → Bool} {st un : Nat → Nat} {ua : Nat → Int32} {u : SX} (h : sx_T T u) (hI : qt_iv T) (hD : sx_D (nu, st, un, ua) u) (hb : rd_bd (nu, st, un, ua)) {post : Int32 → Prop} {b : Nat} (hb16 : b < 16) (h1 : rd_hg nu st b (qt_sp T b) → post 1) (h0 : ¬ rd_hg nu st b (qt_sp T b) → post 0) : wpX_hangs post u (nI b) := by
  obtain ⟨f_active, f_epoch, a_dataNodeDown, a_journalDown, a_masterDown, a_inTouch, a_promise, a_base, a_logLength, a_logEpoch, a_logKind, a_logA, a_logB, a_logC, a_inodeState, a_inodePlace, a_inodeClient, a_closeUnits, a_rowLength, a_rowBlock, a_blockStamp, a_replicaHeld, a_replicaStamp, a_unitCount, a_unitValue⟩ := u
  unfold wpX_hangs
  obtain ⟨m, hm⟩ := ls_ex (fun d => rd_g nu st b (qt_sp T b) d = true) 5
  refine xm_firstGoodNode (u := (f_active, f_epoch, a_dataNodeDown, a_journalDown, a_masterDown, a_inTouch, a_promise, a_base, a_logLength, a_logEpoch, a_logKind, a_logA, a_logB, a_logC, a_inodeState, a_inodePlace, a_inodeClient, a_closeUnits, a_rowLength, a_rowBlock, a_blockStamp, a_replicaHeld, a_replicaStamp, a_unitCount, a_unitValue)) h hI hD hb hb16 hm ?_
  by_cases hlt : m < 5
  · rw [ls_vS hlt]
    obtain ⟨g1, g2, g3⟩ := rd_gI.mp (hm.2.2 hlt)
    have hc : 16 * m + b < 80 := by omega
    refine br_f (ix_m1 (by omega)) ?_
    rw [show nI m * 16 + nI b = nI (16 * m + b) from mu_r m 16 b]
    refine ⟨vp_in_nI hc (by decide), nm_r ((xm_stamp hD.2.2.1 hc (by omega)).trans (by rw [g3])) ?_⟩
    have hGB : rd_G nu st b (qt_sp T b) ≤ 2000000 := by rw [← g3]; exact hb.1 _ hc
    have key : ∀ k n d, d + k = 5 → k < n → (∀ e, e < d → ¬ (nu e = false ∧ st (16 * e + b) = rd_G nu st b (qt_sp T b))) → wX_hangs_28 post (nI b) (qt_m (rd_G nu st b (qt_sp T b))) f_active f_epoch a_dataNodeDown a_journalDown a_masterDown a_inTouch a_promise a_base a_logLength a_logEpoch a_logKind a_logA a_logB a_logC a_inodeState a_inodePlace a_inodeClient a_closeUnits a_rowLength a_rowBlock a_blockStamp a_replicaHeld a_replicaStamp a_unitCount a_unitValue n (nI d) := by
      intro k
      induction k with
      | zero =>
        intro n d hd hn H
        obtain ⟨n, rfl⟩ : ∃ n', n = n' + 1 := ⟨n - 1, by omega⟩
        have e : d = 5 := by omega
        subst e
        exact br_t lb_t (h0 (fun ⟨e, he, _, z2, z3⟩ => H e he ⟨z2, z3⟩))
      | succ k ih =>
        intro n d hd hn H
        obtain ⟨n, rfl⟩ : ∃ n', n = n' + 1 := ⟨n - 1, by omega⟩
        have hd5 : d < 5 := by omega
        have hc : 16 * d + b < 80 := by omega
        have hs := hb.1 (16 * d + b) hc
        have go : ¬ (nu d = false ∧ st (16 * d + b) = rd_G nu st b (qt_sp T b)) → wX_hangs_28 post (nI b) (qt_m (rd_G nu st b (qt_sp T b))) f_active f_epoch a_dataNodeDown a_journalDown a_masterDown a_inTouch a_promise a_base a_logLength a_logEpoch a_logKind a_logA a_logB a_logC a_inodeState a_inodePlace a_inodeClient a_closeUnits a_rowLength a_rowBlock a_blockStamp a_replicaHeld a_replicaStamp a_unitCount a_unitValue n (nI (d + 1)) := by
          intro z
          refine ih n (d + 1) (by omega) (by omega) (fun e he => ?_)
          by_cases e' : e = d
          · subst e'; exact z
          · exact H e (by omega)
        refine br_f (lb_f hd5) (nm_r (mu_r d 16 b) ⟨vp_in_nI hd5 (by decide), cd_if (cd_n (hD.1 d hd5) (by omega)) (fun hu => nm_r (nI_1 d) (go (fun z => by rw [hu] at z; exact absurd z.1 (by decide)))) (fun hu => ⟨vp_in_nI hc (by decide), cd_if (xm_held hD.2.1 hc) (fun z => nm_r (nI_1 d) (go (fun y => by omega))) (fun z => ⟨vp_in_nI hc (by decide), ?_⟩)⟩)⟩)
        rw [xm_stamp hD.2.2.1 hc z]
        exact cd_if (qt_mE (by omega) (by omega)) (fun y => h1 ⟨d, hd5, g1, by simpa using hu, y⟩) (fun y => nm_r (nI_1 d) (go (fun x => y x.2)))
    exact ⟨6, key 5 6 0 (by omega) (by omega) (fun e he => by omega)⟩
  · have e : m = 5 := by have := hm.1; omega
    subst e
    rw [ls_vN]
    refine br_t rfl (h0 (fun ⟨_, _, g, _, _⟩ => ?_))
    obtain ⟨d, hd, z⟩ := rd_gX g
    exact hm.2.1 d hd z
