/-! takeover: the logs are copied -/
/-- journals below i have the best log -/
def tk_f {α : Type} (i s : Nat) (ju : Nat → Bool) (f : Nat → α) (j : Nat) : α := if j < i ∧ ju j = true then f s else f j
theorem tk_0 {α : Type} {s : Nat} {ju : Nat → Bool} {f : Nat → α} {j : Nat} : tk_f 0 s ju f j = f j := if_neg (fun z => absurd z.1 (Nat.not_lt_zero _))
theorem tk_3 {α : Type} {s : Nat} {ju : Nat → Bool} {f : Nat → α} {j : Nat} (h : j < 3) : tk_f 3 s ju f j = if ju j = true then f s else f j := by
  unfold tk_f
  by_cases z : ju j = true
  · rw [if_pos ⟨h, z⟩, if_pos z]
  · rw [if_neg (fun y => z y.2), if_neg z]
theorem tk_n {α : Type} {i s : Nat} {ju : Nat → Bool} {f : Nat → α} {j : Nat} (h : j ≠ i ∨ ju j = false) : tk_f (i + 1) s ju f j = tk_f i s ju f j := by
  unfold tk_f
  by_cases z : j < i ∧ ju j = true
  · rw [if_pos z, if_pos ⟨by omega, z.2⟩]
  · rw [if_neg z, if_neg]
    intro y
    rcases h with h | h
    · exact z ⟨by omega, y.2⟩
    · rw [h] at y; exact absurd y.2 (by decide)
theorem tk_t {α : Type} {i s : Nat} {ju : Nat → Bool} {f : Nat → α} (h : ju i = true) : tk_f (i + 1) s ju f i = f s := if_pos ⟨by omega, h⟩
theorem tk_s {α : Type} {i s : Nat} {ju : Nat → Bool} {f : Nat → α} : tk_f i s ju f s = f s := by
  unfold tk_f
  split <;> rfl
section
variable {T : qt_T} {mu ju : Nat → Bool} {ac ep : Nat} {to : Nat → Bool} {pr ba le : Nat → Nat} {lg : Nat → Nat → qt_R} {nu : Nat → Bool} {st un : Nat → Nat} {ua : Nat → Int32}
/-- cells while row t is being written from row s: k records are -/
def tk_c (bd : Nat → Nat) (lf : Nat → Nat → qt_R) (s t k : Nat) (aE aK aA aB aC : Nat → Int32) : Prop :=
  (∀ j q, j < 3 → q < bd j → (j ≠ t ∨ k ≤ q) → lj_ce (lf j q) (aE (1000 * j + q)) (aK (1000 * j + q)) (aA (1000 * j + q)) (aB (1000 * j + q)) (aC (1000 * j + q)))
    ∧ (∀ q, q < k → lj_ce (lf s q) (aE (1000 * t + q)) (aK (1000 * t + q)) (aA (1000 * t + q)) (aB (1000 * t + q)) (aC (1000 * t + q)))
theorem xm_copyLoop {bd : Nat → Nat} {lf : Nat → Nat → qt_R} {s t : Nat} (hs : s < 3) (ht : t < 3) (hbd : ∀ j, j < 3 → bd j ≤ 1000) {post : SX → Prop} {f_active f_epoch : Int32} {a_dataNodeDown a_journalDown a_masterDown a_inTouch a_promise a_base a_logLength a_inodeState a_inodePlace a_inodeClient a_closeUnits a_rowLength a_rowBlock a_blockStamp a_replicaHeld a_replicaStamp a_unitCount a_unitValue : Nat → Int32}
    (hp : ∀ aE aK aA aB aC : Nat → Int32, tk_c bd lf s t (bd s) aE aK aA aB aC → post (f_active, f_epoch, a_dataNodeDown, a_journalDown, a_masterDown, a_inTouch, a_promise, upd a_base t (a_base s), upd a_logLength t (nI (bd s)), aE, aK, aA, aB, aC, a_inodeState, a_inodePlace, a_inodeClient, a_closeUnits, a_rowLength, a_rowBlock, a_blockStamp, a_replicaHeld, a_replicaStamp, a_unitCount, a_unitValue)) :
    ∀ m n k, k + m = bd s → m < n → ∀ aE aK aA aB aC : Nat → Int32, tk_c bd lf s t k aE aK aA aB aC → wX_copyLog_10 post (nI s) (nI t) (nI (bd s)) f_active f_epoch n (nI k) a_dataNodeDown a_journalDown a_masterDown a_inTouch a_promise a_base a_logLength aE aK aA aB aC a_inodeState a_inodePlace a_inodeClient a_closeUnits a_rowLength a_rowBlock a_blockStamp a_replicaHeld a_replicaStamp a_unitCount a_unitValue := by
  have hb := hbd s hs
  have hvs := vp_in_nI hs (by decide : 3 < 2 ^ 31)
  have hvt := vp_in_nI ht (by decide : 3 < 2 ^ 31)
  intro m
  induction m with
  | zero =>
    intro n k hk hn aE aK aA aB aC H
    obtain ⟨n, rfl⟩ : ∃ n', n = n' + 1 := ⟨n - 1, by omega⟩
    have e : k = bd s := by omega
    subst e
    refine br_t lb_t ⟨hvt, nm_e ⟨hvs, hvt, nm_e ?_⟩⟩
    rw [nI_clamp (n := t) (by omega), nI_clamp (n := s) (by omega)]
    exact hp aE aK aA aB aC H
  | succ m ih =>
    intro n k hk hn aE aK aA aB aC H
    obtain ⟨n, rfl⟩ : ∃ n', n = n' + 1 := ⟨n - 1, by omega⟩
    have h1 := vp_in_nI (show 1000 * s + k < 3000 by omega) (by decide : 3000 < 2 ^ 31)
    have h2 := vp_in_nI (show 1000 * t + k < 3000 by omega) (by decide : 3000 < 2 ^ 31)
    have c1 : (nI (1000 * s + k)).toNatClampNeg = 1000 * s + k := nI_clamp (by omega)
    have c2 : (nI (1000 * t + k)).toNatClampNeg = 1000 * t + k := nI_clamp (by omega)
    refine br_f (lb_f (by omega) (by omega)) (nm_r (mu_r s 1000 k) (nm_r (mu_r t 1000 k) ⟨h1, h2, nm_e ⟨h1, h2, nm_e ⟨h1, h2, nm_e ⟨h1, h2, nm_e ⟨h1, h2, nm_e (nm_r (nI_1 k) ?_)⟩⟩⟩⟩⟩))
    rw [c1, c2]
    refine ih n (k + 1) (by omega) (by omega) _ _ _ _ _ ⟨fun j q hj hq ho => ?_, fun q hq => ?_⟩
    · have hq2 := hbd j hj
      have hne : 1000 * j + q ≠ 1000 * t + k := by omega
      rw [pk_un hne, pk_un hne, pk_un hne, pk_un hne, pk_un hne]
      exact H.1 j q hj hq (by omega)
    · by_cases z : q = k
      · subst z
        rw [pk_us, pk_us, pk_us, pk_us, pk_us]
        exact H.1 s q hs (by omega) (by omega)
      · rw [pk_un (by omega), pk_un (by omega), pk_un (by omega), pk_un (by omega), pk_un (by omega)]
        exact H.2 q (by omega)
/-- the state within the loop of takeover: i journals have been asked -/
def tk_x (i s E : Nat) (ju to : Nat → Bool) (pr ba le : Nat → Nat) (lg : Nat → Nat → qt_R) (aI aP aB aN aE aK aA aB' aC : Nat → Int32) : Prop :=
  (∀ j, j < 3 → aI j = bo_p (if j < i then ju j else to j)) ∧ (∀ j, j < 3 → aP j = nI (if j < i ∧ ju j = true then E else pr j)) ∧ (∀ j, j < 3 → aB j = nI (tk_f i s ju ba j)) ∧ (∀ j, j < 3 → aN j = nI (tk_f i s ju le j))
    ∧ (∀ j q, j < 3 → q < tk_f i s ju le j → lj_ce (tk_f i s ju lg j q) (aE (1000 * j + q)) (aK (1000 * j + q)) (aA (1000 * j + q)) (aB' (1000 * j + q)) (aC (1000 * j + q)))
theorem xm_takeLoop {u : SX} (h : sx_T T u) (hL : sx_L (mu, ju, ac, ep, to, pr, ba, le, lg) u) (hD : sx_D (nu, st, un, ua) u) {s E m0 : Nat} (hs : s < 3) (hm0 : m0 < 2) (hw : ∀ j, j < 3 → qt_wf (lg j) (le j) ∧ le j ≤ 1000) (hjs : ju s = true) {post : Int32 → SX → Prop}
    (hp : ∀ u', sx_T (qt_ab (lg s) (le s)) u' → sx_L (mu, ju, m0 + 1, E, ju, (fun j => if ju j = true then E else pr j), (fun j => if ju j = true then ba s else ba j), (fun j => if ju j = true then le s else le j), (fun j => if ju j = true then lg s else lg j)) u' → sx_D (nu, st, un, ua) u' → post (nI E) u') :
    ∀ f_active f_epoch a_dataNodeDown a_journalDown a_masterDown a_inTouch a_promise a_base a_logLength a_logEpoch a_logKind a_logA a_logB a_logC a_inodeState a_inodePlace a_inodeClient a_closeUnits a_rowLength a_rowBlock a_blockStamp a_replicaHeld a_replicaStamp a_unitCount a_unitValue, u = (f_active, f_epoch, a_dataNodeDown, a_journalDown, a_masterDown, a_inTouch, a_promise, a_base, a_logLength, a_logEpoch, a_logKind, a_logA, a_logB, a_logC, a_inodeState, a_inodePlace, a_inodeClient, a_closeUnits, a_rowLength, a_rowBlock, a_blockStamp, a_replicaHeld, a_replicaStamp, a_unitCount, a_unitValue) → ∃ n, wX_takeover_46 post (nI m0) (nI s) n 0 f_active (nI E) a_dataNodeDown a_journalDown a_masterDown a_inTouch a_promise a_base a_logLength a_logEpoch a_logKind a_logA a_logB a_logC a_inodeState a_inodePlace a_inodeClient a_closeUnits a_rowLength a_rowBlock a_blockStamp a_replicaHeld a_replicaStamp a_unitCount a_unitValue := by
  intro f_active f_epoch a_dataNodeDown a_journalDown a_masterDown a_inTouch a_promise a_base a_logLength a_logEpoch a_logKind a_logA a_logB a_logC a_inodeState a_inodePlace a_inodeClient a_closeUnits a_rowLength a_rowBlock a_blockStamp a_replicaHeld a_replicaStamp a_unitCount a_unitValue eu
  subst eu
  obtain ⟨l1, l2, l3, l4, l5, l6, l7, l8, l9⟩ := hL
  obtain ⟨d1, d2, d3, d4, d5⟩ := hD
  have h' : qt_ag True T a_inodeState a_inodePlace a_inodeClient a_closeUnits a_rowLength a_rowBlock a_blockStamp := h
  have hbd : ∀ i j, j < 3 → tk_f i s ju le j ≤ 1000 := by
    intro i j hj
    unfold tk_f
    split
    · exact (hw s hs).2
    · exact (hw j hj).2
  have key : ∀ m n i, i + m = 3 → m < n → ∀ aI aP aB aN aE aK aA aB' aC : Nat → Int32, tk_x i s E ju to pr ba le lg aI aP aB aN aE aK aA aB' aC → wX_takeover_46 post (nI m0) (nI s) n (nI i) f_active (nI E) a_dataNodeDown a_journalDown a_masterDown aI aP aB aN aE aK aA aB' aC a_inodeState a_inodePlace a_inodeClient a_closeUnits a_rowLength a_rowBlock a_blockStamp a_replicaHeld a_replicaStamp a_unitCount a_unitValue := by
    intro m
    induction m with
    | zero =>
      intro n i hi hn aI aP aB aN aE aK aA aB' aC H
      obtain ⟨n, rfl⟩ : ∃ n', n = n' + 1 := ⟨n - 1, by omega⟩
      have e : i = 3 := by omega
      subst e
      obtain ⟨t1, t2, t3, t4, t5⟩ := H
      have hLn : sx_L (mu, ju, m0 + 1, E, ju, (fun j => if ju j = true then E else pr j), (fun j => if ju j = true then ba s else ba j), (fun j => if ju j = true then le s else le j), (fun j => if ju j = true then lg s else lg j)) ((nI m0), (nI E), a_dataNodeDown, a_journalDown, a_masterDown, aI, aP, aB, aN, aE, aK, aA, aB', aC, a_inodeState, a_inodePlace, a_inodeClient, a_closeUnits, a_rowLength, a_rowBlock, a_blockStamp, a_replicaHeld, a_replicaStamp, a_unitCount, a_unitValue) := by
        refine ⟨(qt_ms m0).symm, rfl, l3, l4, ?_, ?_, ?_, ?_, ?_⟩
        · intro j hj; rw [t1 j hj, if_pos hj]
        · intro j hj
          rw [t2 j hj]
          dsimp only
          by_cases z : ju j = true
          · rw [if_pos ⟨hj, z⟩, if_pos z]
          · rw [if_neg (fun y => z y.2), if_neg z]
        · intro j hj; rw [t3 j hj, tk_3 hj]
        · intro j hj; rw [t4 j hj, tk_3 hj]
        · intro j q hj hq
          have := t5 j q hj (by rw [tk_3 hj]; exact hq)
          rw [tk_3 hj] at this
          exact this
      refine br_t lb_t (xm_replayLog (u := ((nI m0), (nI E), a_dataNodeDown, a_journalDown, a_masterDown, aI, aP, aB, aN, aE, aK, aA, aB', aC, a_inodeState, a_inodePlace, a_inodeClient, a_closeUnits, a_rowLength, a_rowBlock, a_blockStamp, a_replicaHeld, a_replicaStamp, a_unitCount, a_unitValue)) hLn ⟨d1, d2, d3, d4, d5⟩ hs ?_ ?_ ?_)
      · show (if ju s = true then le s else le s) ≤ 1000
        rw [if_pos hjs]; exact (hw s hs).2
      · show qt_wf (if ju s = true then lg s else lg s) (if ju s = true then le s else le s)
        rw [if_pos hjs, if_pos hjs]; exact (hw s hs).1
      · rintro ⟨f_active, f_epoch, a_dataNodeDown, a_journalDown, a_masterDown, a_inTouch, a_promise, a_base, a_logLength, a_logEpoch, a_logKind, a_logA, a_logB, a_logC, a_inodeState, a_inodePlace, a_inodeClient, a_closeUnits, a_rowLength, a_rowBlock, a_blockStamp, a_replicaHeld, a_replicaStamp, a_unitCount, a_unitValue⟩ g1 g2 g3
        rw [if_pos hjs, if_pos hjs] at g1
        have e2 : f_epoch = nI E := g2.2.1
        have := hp _ g1 g2 g3
        rw [← e2] at this
        exact this
    | succ m ih =>
      intro n i hi hn aI aP aB aN aE aK aA aB' aC H
      obtain ⟨n, rfl⟩ : ∃ n', n = n' + 1 := ⟨n - 1, by omega⟩
      have hi3 : i < 3 := by omega
      have hv := vp_in_nI hi3 (by decide : 3 < 2 ^ 31)
      have hc : (nI i).toNatClampNeg = i := nI_clamp (by omega)
      obtain ⟨t1, t2, t3, t4, t5⟩ := H
      have hT1 : ∀ x : Bool, x = ju i → ∀ j, j < 3 → upd aI i (bo_p x) j = bo_p (if j < i + 1 then ju j else to j) := by
        intro x hx j hj
        by_cases z : j = i
        · subst z; rw [pk_us, if_pos (by omega), hx]
        · rw [pk_un z, t1 j hj]
          by_cases y : j < i
          · rw [if_pos y, if_pos (by omega)]
          · rw [if_neg y, if_neg (by omega)]
      refine br_f (lb_f hi3) ⟨hv, cd_if (cd_n (l3 i hi3) (by omega)) (fun hu => ?_) (fun hu => ?_)⟩
      · refine ⟨hv, nm_e ⟨hv, ?_⟩⟩
        rw [hc, show vp_nar .boolean 1 = bo_p true from rfl]
        refine br_f (by rw [pk_us]; decide) ⟨hv, nm_e ?_⟩
        have ls : aN (nI s).toNatClampNeg = nI (tk_f i s ju le s) := by rw [nI_clamp (by omega)]; exact t4 s hs
        refine ⟨vp_in_nI hs (by decide), nm_r ls ⟨tk_f i s ju le s + 1, xm_copyLoop (bd := tk_f i s ju le) (lf := tk_f i s ju lg) hs hi3 (hbd i) ?_ (tk_f i s ju le s) _ 0 (by omega) (by omega) aE aK aA aB' aC ⟨fun j q hj hq _ => t5 j q hj hq, fun q hq => by omega⟩⟩⟩
        intro bE bK bA bB bC HC
        refine nm_r (nI_1 i) (ih n (i + 1) (by omega) (by omega) _ _ _ _ _ _ _ _ _ ⟨hT1 true hu.symm, ?_, ?_, ?_, ?_⟩)
        · intro j hj
          by_cases z : j = i
          · subst z; rw [pk_us, if_pos ⟨by omega, hu⟩]
          · rw [pk_un z, t2 j hj]
            by_cases y : j < i ∧ ju j = true
            · rw [if_pos y, if_pos ⟨by omega, y.2⟩]
            · rw [if_neg y, if_neg (fun w => y ⟨by omega, w.2⟩)]
        · intro j hj
          by_cases z : j = i
          · subst z; rw [pk_us, tk_t hu, t3 s hs, tk_s]
          · rw [pk_un z, tk_n (Or.inl z)]; exact t3 j hj
        · intro j hj
          by_cases z : j = i
          · subst z; rw [pk_us, tk_t hu, tk_s]
          · rw [pk_un z, tk_n (Or.inl z)]; exact t4 j hj
        · intro j q hj hq
          by_cases z : j = i
          · subst z
            rw [tk_t hu] at hq ⊢
            have := HC.2 q (by rw [tk_s]; exact hq)
            rw [tk_s] at this
            exact this
          · rw [tk_n (Or.inl z)] at hq ⊢
            exact HC.1 j q hj hq (Or.inl z)
      · have hu' : ju i = false := by simpa using hu
        refine ⟨hv, nm_e ⟨hv, ?_⟩⟩
        rw [hc, show vp_nar .boolean 0 = bo_p false from rfl]
        refine br_t (by rw [pk_us]; rfl) (nm_r (nI_1 i) (ih n (i + 1) (by omega) (by omega) _ _ _ _ _ _ _ _ _ ⟨hT1 false hu'.symm, ?_, ?_, ?_, ?_⟩))
        · intro j hj
          rw [t2 j hj]
          by_cases y : j < i ∧ ju j = true
          · rw [if_pos y, if_pos ⟨by omega, y.2⟩]
          · rw [if_neg y, if_neg]
            intro w
            by_cases z : j = i
            · rw [z, hu'] at w; exact absurd w.2 (by decide)
            · exact y ⟨by omega, w.2⟩
        · intro j hj
          rw [tk_n (by by_cases z : j = i; exact Or.inr (by rw [z]; exact hu'); exact Or.inl z)]; exact t3 j hj
        · intro j hj
          rw [tk_n (by by_cases z : j = i; exact Or.inr (by rw [z]; exact hu'); exact Or.inl z)]; exact t4 j hj
        · intro j q hj hq
          have e : ∀ {α : Type} (f : Nat → α), tk_f (i + 1) s ju f j = tk_f i s ju f j := fun f => tk_n (by by_cases z : j = i; exact Or.inr (by rw [z]; exact hu'); exact Or.inl z)
          rw [e] at hq ⊢
          exact t5 j q hj hq
  refine ⟨4, key 3 4 0 (by omega) (by omega) _ _ _ _ _ _ _ _ _ ⟨?_, ?_, ?_, ?_, ?_⟩⟩
  · intro j hj; rw [if_neg (by omega)]; exact l5 j hj
  · intro j hj; rw [if_neg (by omega)]; exact l6 j hj
  · intro j hj; rw [tk_0]; exact l7 j hj
  · intro j hj; rw [tk_0]; exact l8 j hj
  · intro j q hj hq
    rw [tk_0] at hq ⊢
    exact l9 j q hj hq
end
