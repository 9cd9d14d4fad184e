/-! writing records: the component -/
section
variable {T : qt_T} {mu ju : Nat → Bool} {ac ep : Nat} {to : Nat → Bool} {pr ba le : Nat → Nat} {lg : Nat → Nat → qt_R} {nu : Nat → Bool} {st un : Nat → Nat} {ua : Nat → Int32}
theorem xm_logsLackRoom {u : SX} (hL : sx_L (mu, ju, ac, ep, to, pr, ba, le, lg) u) (hl : ∀ j, j < 3 → ba j ≤ le j ∧ le j ≤ 1000) {post : Int32 → Prop} {R : Nat} (hR : R ≤ 2) (h1 : ¬ lj_rm (mu, ju, ac, ep, to, pr, ba, le, lg) R → post 1) (h0 : lj_rm (mu, ju, ac, ep, to, pr, ba, le, lg) R → post 0) : wpX_logsLackRoom post u (nI R) := by
  obtain ⟨f_active, f_epoch, a_dataNodeDown, a_journalDown, a_masterDown, a_inTouch, a_promise, a_base, a_logLength, a_logEpoch, a_logKind, a_logA, a_logB, a_logC, a_inodeState, a_inodePlace, a_inodeClient, a_closeUnits, a_rowLength, a_rowBlock, a_blockStamp, a_replicaHeld, a_replicaStamp, a_unitCount, a_unitValue⟩ := u
  obtain ⟨l1, l2, l3, l4, l5, l6, l7, l8, l9⟩ := hL
  have key : ∀ k n j, j + k = 3 → k < n → (∀ i, i < j → to i = true → (ju i = true → le i + R ≤ ba i + 40) ∧ le i + R ≤ 1000) → wX_logsLackRoom_2 post (nI R) f_active f_epoch a_dataNodeDown a_journalDown a_masterDown a_inTouch a_promise a_base a_logLength a_logEpoch a_logKind a_logA a_logB a_logC a_inodeState a_inodePlace a_inodeClient a_closeUnits a_rowLength a_rowBlock a_blockStamp a_replicaHeld a_replicaStamp a_unitCount a_unitValue n (nI j) := by
    intro k
    induction k with
    | zero =>
      intro n j hj hn H
      obtain ⟨n, rfl⟩ : ∃ n', n = n' + 1 := ⟨n - 1, by omega⟩
      have e : j = 3 := by omega
      subst e
      exact br_t lb_t (h0 H)
    | succ k ih =>
      intro n j hj hn H
      obtain ⟨n, rfl⟩ : ∃ n', n = n' + 1 := ⟨n - 1, by omega⟩
      have hj3 : j < 3 := by omega
      obtain ⟨b1, b2⟩ := hl j hj3
      have hv := vp_in_nI hj3 (by decide : 3 < 2 ^ 31)
      have hc : (nI j).toNatClampNeg = j := nI_clamp (by omega)
      have bad : ¬ (to j = true → (ju j = true → le j + R ≤ ba j + 40) ∧ le j + R ≤ 1000) → post 1 := fun z => h1 (fun y => z (y j hj3))
      have go : (to j = true → (ju j = true → le j + R ≤ ba j + 40) ∧ le j + R ≤ 1000) → wX_logsLackRoom_2 post (nI R) f_active f_epoch a_dataNodeDown a_journalDown a_masterDown a_inTouch a_promise a_base a_logLength a_logEpoch a_logKind a_logA a_logB a_logC a_inodeState a_inodePlace a_inodeClient a_closeUnits a_rowLength a_rowBlock a_blockStamp a_replicaHeld a_replicaStamp a_unitCount a_unitValue n (nI (j + 1)) := by
        intro z
        refine ih n (j + 1) (by omega) (by omega) (fun i hi => ?_)
        by_cases e : i = j
        · subst e; exact z
        · exact H i (by omega)
      have esub : nI (le j + R) - a_base (nI j).toNatClampNeg = nI (le j + R - ba j) := by rw [hc, l7 j hj3]; exact pk_sub (by omega)
      have s34 : le j + R ≤ 1000 ∨ to j = false → wX_logsLackRoom_34 post (wX_logsLackRoom_2 post (nI R) f_active f_epoch a_dataNodeDown a_journalDown a_masterDown a_inTouch a_promise a_base a_logLength a_logEpoch a_logKind a_logA a_logB a_logC a_inodeState a_inodePlace a_inodeClient a_closeUnits a_rowLength a_rowBlock a_blockStamp a_replicaHeld a_replicaStamp a_unitCount a_unitValue n) (nI R) (nI j) (nI (le j + R)) f_active f_epoch a_dataNodeDown a_journalDown a_masterDown a_inTouch a_promise a_base a_logLength a_logEpoch a_logKind a_logA a_logB a_logC a_inodeState a_inodePlace a_inodeClient a_closeUnits a_rowLength a_rowBlock a_blockStamp a_replicaHeld a_replicaStamp a_unitCount a_unitValue := by
        intro hx
        refine ⟨hv, cd_if (cd_p (l5 j hj3) (by omega)) (fun z => nm_r (nI_1 j) (go (fun y => by rw [z] at y; exact absurd y (by decide)))) (fun z => ⟨hv, cd_if (cd_n (l3 j hj3) (by omega)) (fun hu => ⟨hv, ?_⟩) (fun hu => nm_r (nI_1 j) (go (fun y => ⟨fun x => absurd x hu, by rcases hx with w | w; exact w; rw [w] at y; exact absurd y (by decide)⟩)))⟩)⟩
        rw [esub]
        have z' : to j = true := by simpa using z
        have hx' : le j + R ≤ 1000 := by rcases hx with w | w; exact w; rw [w] at z'; exact absurd z' (by decide)
        exact cd_if (nI_leI (b := 40) (by omega) (by decide)) (fun y => nm_r (nI_1 j) (go (fun _ => ⟨fun _ => by omega, hx'⟩))) (fun y => bad (fun w => by have := (w z').1 hu; omega))
      refine br_f (lb_f hj3) ⟨hv, nm_r (e' := nI (le j + R)) (by rw [hc, l8 j hj3, nI_add]) ⟨hv, cd_if (cd_p (l5 j hj3) (by omega)) (fun z => s34 (Or.inr z)) (fun z => cd_if (nI_leI (b := 1000) (by omega) (by decide)) (fun y => s34 (Or.inl y)) (fun y => bad (fun w => ?_)))⟩⟩
      have := (w (by simpa using z)).2
      omega
  exact ⟨4, key 3 4 0 (by omega) (by omega) (fun i hi => by omega)⟩
theorem xm_sharedLength {u : SX} (hL : sx_L (mu, ju, ac, ep, to, pr, ba, le, lg) u) (h2 : lj_two to) {post : Int32 → Prop} (hp : post (nI (le (lj_src to)))) : wpX_sharedLength post u := by
  obtain ⟨f_active, f_epoch, a_dataNodeDown, a_journalDown, a_masterDown, a_inTouch, a_promise, a_base, a_logLength, a_logEpoch, a_logKind, a_logA, a_logB, a_logC, a_inodeState, a_inodePlace, a_inodeClient, a_closeUnits, a_rowLength, a_rowBlock, a_blockStamp, a_replicaHeld, a_replicaStamp, a_unitCount, a_unitValue⟩ := u
  obtain ⟨l1, l2, l3, l4, l5, l6, l7, l8, l9⟩ := hL
  have l8' : ∀ j, j < 3 → a_logLength (nI j).toNatClampNeg = nI (le j) := fun j hj => by rw [nI_clamp (by omega)]; exact l8 j hj
  have l5' : ∀ j, j < 3 → (a_inTouch (nI j).toNatClampNeg = 0 ↔ to j = false) := fun j hj => cd_p (l5 j hj) (by omega)
  have nf : ∀ {x : Bool}, ¬ x = false → x = true := fun {x} h => by cases x <;> simp_all
  refine ⟨4, br_f (lb_f (d := 0) (N := 3) (by decide)) ⟨vp_in_nI (n := 0) (by decide) (by decide), cd_if (l5' 0 (by decide)) (fun z0 => nm_r (nI_1 0) (br_f (lb_f (d := 1) (N := 3) (by decide)) ⟨vp_in_nI (n := 1) (by decide) (by decide), cd_if (l5' 1 (by decide)) (fun z1 => nm_r (nI_1 1) (br_f (lb_f (d := 2) (N := 3) (by decide)) ⟨vp_in_nI (n := 2) (by decide) (by decide), br_f ?_ ⟨vp_in_nI (n := 2) (by decide) (by decide), ?_⟩⟩)) (fun z1 => ⟨vp_in_nI (n := 1) (by decide) (by decide), ?_⟩)⟩)) (fun z0 => ⟨vp_in_nI (n := 0) (by decide) (by decide), ?_⟩)⟩⟩
  · rw [l5' 2 (by decide)]
    intro z2
    rcases h2 0 1 (by decide) (by decide) with w | w
    · rw [w] at z0; exact absurd z0 (by decide)
    · rw [w] at z1; exact absurd z1 (by decide)
  · have e : lj_src to = 2 := by unfold lj_src; rw [z0, z1]; rfl
    rw [l8' 2 (by decide)]; rw [e] at hp; exact hp
  · have e : lj_src to = 1 := by unfold lj_src; rw [z0, nf z1]; rfl
    rw [l8' 1 (by decide)]; rw [e] at hp; exact hp
  · have e : lj_src to = 0 := by unfold lj_src; rw [nf z0]; rfl
    show post (a_logLength (nI 0).toNatClampNeg)
    rw [l8' 0 (by decide)]; rw [e] at hp; exact hp
theorem xm_nextStamp {u : SX} (hL : sx_L (mu, ju, ac, ep, to, pr, ba, le, lg) u) (h2 : lj_two to) {post : Int32 → Prop} (hp : post (nI (2048 * ep + le (lj_src to)))) : wpX_nextStamp post u := by
  obtain ⟨f_active, f_epoch, a_dataNodeDown, a_journalDown, a_masterDown, a_inTouch, a_promise, a_base, a_logLength, a_logEpoch, a_logKind, a_logA, a_logB, a_logC, a_inodeState, a_inodePlace, a_inodeClient, a_closeUnits, a_rowLength, a_rowBlock, a_blockStamp, a_replicaHeld, a_replicaStamp, a_unitCount, a_unitValue⟩ := u
  unfold wpX_nextStamp
  refine xm_sharedLength (u := (f_active, f_epoch, a_dataNodeDown, a_journalDown, a_masterDown, a_inTouch, a_promise, a_base, a_logLength, a_logEpoch, a_logKind, a_logA, a_logB, a_logC, a_inodeState, a_inodePlace, a_inodeClient, a_closeUnits, a_rowLength, a_rowBlock, a_blockStamp, a_replicaHeld, a_replicaStamp, a_unitCount, a_unitValue)) hL h2 ?_
  have e : f_epoch = nI ep := hL.2.1
  rw [e]
  rw [← mu_l] at hp
  exact hp
/-- journals below n have been asked -/
def lj_n (n : Nat) (to ju : Nat → Bool) (j : Nat) : Bool := decide (j < n) && (to j && ju j)
theorem lj_nS {n : Nat} {to ju : Nat → Bool} {j : Nat} (h : j ≠ n) : lj_n (n + 1) to ju j = lj_n n to ju j := by
  unfold lj_n
  congr 1
  exact decide_eq_decide.mpr (by omega)
def lj_wI (n : Nat) (to ju : Nat → Bool) (le : Nat → Nat) (lg : Nat → Nat → qt_R) (r : qt_R) (aI aN aE aK aA aB aC : Nat → Int32) : Prop :=
  (∀ j, j < 3 → aI j = bo_p (if j < n then to j && ju j else to j)) ∧ (∀ j, j < 3 → aN j = nI (if lj_n n to ju j = true then le j + 1 else le j))
    ∧ (∀ j k, j < 3 → k < (if lj_n n to ju j = true then le j + 1 else le j) → lj_ce (if lj_n n to ju j = true ∧ k = le j then r else lg j k) (aE (1000 * j + k)) (aK (1000 * j + k)) (aA (1000 * j + k)) (aB (1000 * j + k)) (aC (1000 * j + k)))
theorem lj_wI0 {n : Nat} {aI aI' aN aE aK aA aB aC : Nat → Int32} {r : qt_R} (H : lj_wI n to ju le lg r aI aN aE aK aA aB aC) (hn : n < 3) (hI : ∀ j, j ≠ n → aI' j = aI j) (hI2 : aI' n = bo_p (to n && ju n)) (hf : (to n && ju n) = false) : lj_wI (n + 1) to ju le lg r aI' aN aE aK aA aB aC := by
  have hz : ∀ j, lj_n (n + 1) to ju j = lj_n n to ju j := by
    intro j
    by_cases e : j = n
    · subst e; unfold lj_n; rw [hf]; simp
    · exact lj_nS e
  refine ⟨?_, ?_, ?_⟩
  · intro j hj
    by_cases e : j = n
    · subst e; rw [hI2, if_pos (by omega)]
    · rw [hI j e, H.1 j hj]
      by_cases l : j < n
      · rw [if_pos l, if_pos (by omega)]
      · rw [if_neg l, if_neg (by omega)]
  · intro j hj; rw [hz]; exact H.2.1 j hj
  · intro j k hj; rw [hz]; exact H.2.2 j k hj
theorem lj_wI1 {n : Nat} {aI aN aE aK aA aB aC : Nat → Int32} {e q a b c : Nat} (H : lj_wI n to ju le lg (e, q, a, b, c) aI aN aE aK aA aB aC) (hn : n < 3) (hrm : ∀ j, j < 3 → (to j && ju j) = true → le j < 1000) (hl3 : ∀ j, j < 3 → le j ≤ 1000) (hf : (to n && ju n) = true) :
    lj_wI (n + 1) to ju le lg (e, q, a, b, c) aI (upd aN n (nI (le n + 1))) (upd aE (1000 * n + le n) (nI e)) (upd aK (1000 * n + le n) (nI q)) (upd aA (1000 * n + le n) (nI a)) (upd aB (1000 * n + le n) (nI b)) (upd aC (1000 * n + le n) (qt_m c)) := by
  have hz : lj_n (n + 1) to ju n = true := by unfold lj_n; rw [hf]; simp
  have hz0 : lj_n n to ju n = false := by unfold lj_n; simp
  refine ⟨?_, ?_, ?_⟩
  · intro j hj
    have := H.1 j hj
    rw [this]
    by_cases e : j = n
    · subst e
      rw [if_neg (by omega), if_pos (by omega), hf]
      rw [Bool.and_eq_true] at hf
      rw [hf.1]
    · by_cases l : j < n
      · rw [if_pos l, if_pos (by omega)]
      · rw [if_neg l, if_neg (by omega)]
  · intro j hj
    by_cases e : j = n
    · subst e; rw [pk_us, hz]; rfl
    · rw [pk_un e, lj_nS e]; exact H.2.1 j hj
  · intro j k hj hk
    by_cases e : j = n
    · subst e
      rw [hz] at hk ⊢
      by_cases z : k = le j
      · subst z
        rw [if_pos ⟨rfl, rfl⟩]
        exact ⟨pk_us, pk_us, pk_us, pk_us, pk_us⟩
      · rw [if_neg (fun y => z y.2)]
        have hk' : k < le j + 1 := hk
        have := H.2.2 j k hj (by rw [hz0]; simp; omega)
        rw [hz0, if_neg (fun y => absurd y.1 (by decide))] at this
        rw [pk_un (by omega), pk_un (by omega), pk_un (by omega), pk_un (by omega), pk_un (by omega)]
        exact this
    · rw [lj_nS e] at hk ⊢
      have h1 := hl3 j hj
      have h2 := hrm n hn hf
      have hk2 : k < 1000 := by
        by_cases y : lj_n n to ju j = true
        · rw [if_pos y] at hk
          have y' : (to j && ju j) = true := by unfold lj_n at y; rw [Bool.and_eq_true] at y; exact y.2
          have := hrm j hj y'
          omega
        · rw [if_neg y] at hk
          omega
      have hne : 1000 * j + k ≠ 1000 * n + le n := by omega
      rw [pk_un hne, pk_un hne, pk_un hne, pk_un hne, pk_un hne]
      exact H.2.2 j k hj hk
theorem lj_cnK {f : Nat → Bool} : 2 ≤ rd_cn f 3 ↔ lj_kp f = true := by
  show 2 ≤ 0 + (if f 0 then 1 else 0) + (if f 1 then 1 else 0) + (if f 2 then 1 else 0) ↔ _
  unfold lj_kp
  cases f 0 <;> cases f 1 <;> cases f 2 <;> decide
theorem rd_loS (f : Nat → Bool) (n : Nat) : rd_lo f (n + 1) = if f n = true then n + 1 else rd_lo f n := rfl
theorem lj_ifT {to ju : Nat → Bool} {j : Nat} (h : j < 3) : lj_n 3 to ju j = (to j && ju j) := by unfold lj_n; simp [h]
theorem xm_writeRecord {u : SX} (h : sx_T T u) (hI : qt_iv T) (hL : sx_L (mu, ju, ac, ep, to, pr, ba, le, lg) u) (hD : sx_D (nu, st, un, ua) u) (hac : 0 < ac) {k : Nat} (hiv : lj_iv k (mu, ju, ac, ep, to, pr, ba, le, lg) T) (hrm : lj_rm (mu, ju, ac, ep, to, pr, ba, le, lg) 1) {q a b c : Nat} (ho : qt_ok T (ep, q, a, b, c)) {post : Int32 → SX → Prop}
    (h1 : lj_kept (mu, ju, ac, ep, to, pr, ba, le, lg) = true → ∀ u', sx_T (qt_ap T (ep, q, a, b, c) (le (lj_src to))) u' → sx_L (lj_wr (mu, ju, ac, ep, to, pr, ba, le, lg) q a b c) u' → sx_D (nu, st, un, ua) u' → post 1 u')
    (h0 : lj_kept (mu, ju, ac, ep, to, pr, ba, le, lg) = false → ∀ u', sx_T T u' → sx_L (lj_wr (mu, ju, ac, ep, to, pr, ba, le, lg) q a b c) u' → sx_D (nu, st, un, ua) u' → post 0 u') : wpX_writeRecord post u (nI q) (nI a) (nI b) (qt_m c) := by
  obtain ⟨f_active, f_epoch, a_dataNodeDown, a_journalDown, a_masterDown, a_inTouch, a_promise, a_base, a_logLength, a_logEpoch, a_logKind, a_logA, a_logB, a_logC, a_inodeState, a_inodePlace, a_inodeClient, a_closeUnits, a_rowLength, a_rowBlock, a_blockStamp, a_replicaHeld, a_replicaStamp, a_unitCount, a_unitValue⟩ := u
  obtain ⟨l1, l2, l3, l4, l5, l6, l7, l8, l9⟩ := hL
  obtain ⟨d1, d2, d3, d4, d5⟩ := hD
  have h' : qt_ag True T a_inodeState a_inodePlace a_inodeClient a_closeUnits a_rowLength a_rowBlock a_blockStamp := h
  obtain ⟨i1, i2, i3, i4, i5, i6⟩ := hiv
  obtain ⟨t2, sh, eT⟩ := i6 hac
  have hl3 : ∀ j, j < 3 → le j ≤ 1000 := fun j hj => (i5 j hj).2.2.2
  have hlt : ∀ j, j < 3 → (to j && ju j) = true → le j < 1000 := by
    intro j hj z
    rw [Bool.and_eq_true] at z
    have := (hrm j hj z.1).2
    omega
  have key : ∀ m n i, i + m = 3 → m < n → ∀ aI aN aE aK aA aB aC : Nat → Int32, lj_wI i to ju le lg (ep, q, a, b, c) aI aN aE aK aA aB aC → wX_writeRecord_9 post (nI q) (nI a) (nI b) (qt_m c) n (nI (rd_cn (fun j => to j && ju j) i)) (qt_m (rd_lo (fun j => to j && ju j) i)) (nI i) f_active f_epoch a_dataNodeDown a_journalDown a_masterDown aI a_promise a_base aN aE aK aA aB aC a_inodeState a_inodePlace a_inodeClient a_closeUnits a_rowLength a_rowBlock a_blockStamp a_replicaHeld a_replicaStamp a_unitCount a_unitValue := by
    intro m
    induction m with
    | zero =>
      intro n i hi hn aI aN aE aK aA aB aC H
      obtain ⟨n, rfl⟩ : ∃ n', n = n' + 1 := ⟨n - 1, by omega⟩
      have e : i = 3 := by omega
      subst e
      have hcn := rd_cnL (fun j => to j && ju j) 3
      have hI3 : ∀ j, j < 3 → aI j = bo_p (to j && ju j) := by
        intro j hj
        have := H.1 j hj
        rw [if_pos hj] at this
        exact this
      have hN3 : ∀ j, j < 3 → aN j = nI (if (to j && ju j) = true then le j + 1 else le j) := by
        intro j hj
        have := H.2.1 j hj
        rw [lj_ifT hj] at this
        exact this
      have hC3 : ∀ j k, j < 3 → k < (if (to j && ju j) = true then le j + 1 else le j) → lj_ce ((if (to j && ju j) = true then qt_uR (lg j) (le j) (ep, q, a, b, c) else lg j) k) (aE (1000 * j + k)) (aK (1000 * j + k)) (aA (1000 * j + k)) (aB (1000 * j + k)) (aC (1000 * j + k)) := by
        intro j k hj hk
        have := H.2.2 j k hj
        rw [lj_ifT hj] at this
        have e : (if (to j && ju j) = true then qt_uR (lg j) (le j) (ep, q, a, b, c) else lg j) k = if (to j && ju j) = true ∧ k = le j then (ep, q, a, b, c) else lg j k := by
          by_cases z : (to j && ju j) = true
          · rw [if_pos z]
            by_cases y : k = le j
            · rw [if_pos ⟨z, y⟩, y, qt_uRs]
            · rw [if_neg (fun w => y w.2), qt_uRn y]
          · rw [if_neg z, if_neg (fun w => z w.1)]
        rw [e]
        exact this hk
      refine br_t lb_t (cd_if ((nI_leI (a := 2) (by decide) (by omega)).trans lj_cnK) (fun z => ?_) (fun z => ?_))
      · have hlo : ∃ s, s < 3 ∧ (to s && ju s) = true ∧ rd_lo (fun j => to j && ju j) 3 = s + 1 := by
          by_cases y : rd_lo (fun j => to j && ju j) 3 = 0
          · exfalso
            have z2 := lj_srcT (lj_kpT z)
            have hs : lj_src (fun j => to j && ju j) < 3 := lj_srcL _
            have hall : ∀ n, n ≤ 3 → rd_lo (fun j => to j && ju j) n = 0 → ∀ j, j < n → (to j && ju j) = false := by
              intro n
              induction n with
              | zero => intro _ _ j hj; omega
              | succ n ih =>
                intro hn hz j hj
                rw [rd_loS] at hz
                by_cases w : (to n && ju n) = true
                · rw [if_pos w] at hz; omega
                · rw [if_neg w] at hz
                  by_cases e : j = n
                  · subst e; simpa using w
                  · exact ih (by omega) hz j (by omega)
            have := hall 3 (by omega) y _ hs
            rw [z2] at this
            exact absurd this (by decide)
          · rcases rd_loP (f := fun j => to j && ju j) (n := 3) with w | ⟨y1, y2⟩
            · exact absurd w y
            · exact ⟨rd_lo (fun j => to j && ju j) 3 - 1, by omega, y2, by omega⟩
        obtain ⟨s, hs1, hs2, hs3⟩ := hlo
        have hs2' := hs2
        rw [Bool.and_eq_true] at hs2'
        obtain ⟨e1, e2⟩ := sh s hs1 hs2'.1
        have es : aN (nI s).toNatClampNeg - 1 = nI (le s) := by
          rw [nI_clamp (by omega), hN3 s hs1, if_pos hs2, nI_pred]
        rw [hs3, qt_ms]
        refine ⟨vp_in_nI hs1 (by decide), ?_⟩
        rw [es]
        have hls := hlt s hs1 hs2
        have hcs : (if (to s && ju s) = true then qt_uR (lg s) (le s) (ep, q, a, b, c) else lg s) (le s) = (ep, q, a, b, c) := by rw [if_pos hs2, qt_uRs]
        have hLw : sx_L (lj_wr (mu, ju, ac, ep, to, pr, ba, le, lg) q a b c) (f_active, f_epoch, a_dataNodeDown, a_journalDown, a_masterDown, aI, a_promise, a_base, aN, aE, aK, aA, aB, aC, a_inodeState, a_inodePlace, a_inodeClient, a_closeUnits, a_rowLength, a_rowBlock, a_blockStamp, a_replicaHeld, a_replicaStamp, a_unitCount, a_unitValue) := by
          refine ⟨?_, l2, l3, l4, hI3, l6, l7, hN3, hC3⟩
          rw [if_pos z]; exact l1
        refine xm_applyRecord (u := (f_active, f_epoch, a_dataNodeDown, a_journalDown, a_masterDown, aI, a_promise, a_base, aN, aE, aK, aA, aB, aC, a_inodeState, a_inodePlace, a_inodeClient, a_closeUnits, a_rowLength, a_rowBlock, a_blockStamp, a_replicaHeld, a_replicaStamp, a_unitCount, a_unitValue)) h' hI hLw ⟨d1, d2, d3, d4, d5⟩ hs1 (by rw [if_pos hs2]; omega) hls ?_ ?_
        · rw [hcs]; exact ho
        · rintro ⟨f_active, f_epoch, a_dataNodeDown, a_journalDown, a_masterDown, a_inTouch, a_promise, a_base, a_logLength, a_logEpoch, a_logKind, a_logA, a_logB, a_logC, a_inodeState, a_inodePlace, a_inodeClient, a_closeUnits, a_rowLength, a_rowBlock, a_blockStamp, a_replicaHeld, a_replicaStamp, a_unitCount, a_unitValue⟩ g1 g2 g3
          rw [hcs, e1] at g1
          exact h1 z _ g1 g2 g3
      · have z' : lj_kp (fun j => to j && ju j) = false := by simpa using z
        refine h0 z' _ h' ?_ ⟨d1, d2, d3, d4, d5⟩
        refine ⟨?_, l2, l3, l4, hI3, l6, l7, hN3, hC3⟩
        rw [if_neg z]; rfl
    | succ m ih =>
      intro n i hi hn aI aN aE aK aA aB aC H
      obtain ⟨n, rfl⟩ : ∃ n', n = n' + 1 := ⟨n - 1, by omega⟩
      have hi3 : i < 3 := by omega
      have hv := vp_in_nI hi3 (by decide : 3 < 2 ^ 31)
      have hc : (nI i).toNatClampNeg = i := nI_clamp (by omega)
      have hIi : aI i = bo_p (to i) := by have := H.1 i hi3; rw [if_neg (by omega)] at this; exact this
      have hNi : aN i = nI (le i) := by
        have := H.2.1 i hi3
        have z : lj_n i to ju i = false := by unfold lj_n; simp
        rw [z] at this
        exact this
      have hle := hl3 i hi3
      have skip : (to i && ju i) = false → ∀ aI' : Nat → Int32, (∀ j, j ≠ i → aI' j = aI j) → aI' i = bo_p (to i && ju i) → wX_writeRecord_9 post (nI q) (nI a) (nI b) (qt_m c) n (nI (rd_cn (fun j => to j && ju j) i)) (qt_m (rd_lo (fun j => to j && ju j) i)) (nI (i + 1)) f_active f_epoch a_dataNodeDown a_journalDown a_masterDown aI' a_promise a_base aN aE aK aA aB aC a_inodeState a_inodePlace a_inodeClient a_closeUnits a_rowLength a_rowBlock a_blockStamp a_replicaHeld a_replicaStamp a_unitCount a_unitValue := by
        intro hf aI' g1 g2
        have := ih n (i + 1) (by omega) (by omega) aI' aN aE aK aA aB aC (lj_wI0 H hi3 g1 g2 hf)
        rw [rd_cnF (f := fun j => to j && ju j) hf, rd_loS, if_neg (by simp [hf])] at this
        exact this
      refine br_f (lb_f hi3) ⟨hv, cd_if (cd_n (l3 i hi3) (by omega)) (fun hu => ?_) (fun hu => ?_)⟩
      · refine ⟨hv, cd_if (cd_p hIi (by omega)) (fun z => nm_r (nI_1 i) (skip (by rw [z]; rfl) aI (fun _ _ => rfl) (by rw [hIi, z]; rfl))) (fun z => ⟨hv, ?_⟩)⟩
        have z' : to i = true := by simpa using z
        have hf : (to i && ju i) = true := by rw [z', hu]; rfl
        have hlti := hlt i hi3 hf
        refine br_f ?_ ?_
        · rw [hc, hNi]; exact lb_f hlti
        · have ecell : nI i * 1000 + aN (nI i).toNatClampNeg = nI (1000 * i + le i) := by rw [hc, hNi]; exact mu_r i 1000 (le i)
          have hcell : (nI (1000 * i + le i)).toNatClampNeg = 1000 * i + le i := nI_clamp (by omega)
          have hvc := vp_in_nI (show 1000 * i + le i < 3000 by omega) (by decide)
          refine ⟨hv, nm_r ecell ⟨hvc, nm_e ⟨hvc, nm_e ⟨hvc, nm_e ⟨hvc, nm_e ⟨hvc, nm_e ⟨hv, hv, nm_e (nm_r (rd_cnT (f := fun j => to j && ju j) hf) (nm_r (nI_1 i) ?_))⟩⟩⟩⟩⟩⟩⟩
          have := ih n (i + 1) (by omega) (by omega) _ _ _ _ _ _ _ (lj_wI1 H hi3 hlt hl3 hf)
          rw [rd_loS, if_pos hf, qt_ms, show f_epoch = nI ep from l2] at this
          rw [hc, hNi, nI_1, hcell, show f_epoch = nI ep from l2]
          exact this
      · have hu' : ju i = false := by simpa using hu
        have hf : (to i && ju i) = false := by rw [hu']; cases to i <;> rfl
        have eI : upd aI i (vp_nar .boolean 0) i = bo_p (to i && ju i) := by rw [pk_us, hf]; rfl
        refine ⟨hv, nm_e ?_⟩
        rw [hc]
        exact ⟨hv, br_t (by rw [hc, pk_us]; rfl) (nm_r (nI_1 i) (skip hf _ (fun j hj => pk_un hj) eI))⟩
  refine ⟨4, key 3 4 0 (by omega) (by omega) _ _ _ _ _ _ _ ⟨?_, ?_, ?_⟩⟩
  · intro j hj
    rw [if_neg (by omega)]; exact l5 j hj
  · intro j hj
    rw [show lj_n 0 to ju j = false by unfold lj_n; simp]; exact l8 j hj
  · intro j k hj hk
    have e : lj_n 0 to ju j = false := by unfold lj_n; simp
    rw [e] at hk ⊢
    rw [if_neg (fun y => absurd y.1 (by decide))]
    exact l9 j k hj hk
end
