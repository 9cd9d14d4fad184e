/-! new objects -/
def lj_L0 : lj_L := (fun _ => true, fun _ => true, 0, 0, fun _ => false, fun _ => 0, fun _ => 0, fun _ => 0, fun _ _ => (0, 0, 0, 0, 0))
def rd_D0 : rd_D := (fun _ => true, fun _ => 0, fun _ => 0, fun _ => 0)
theorem ym_init {post : SY → Prop} (hp : ∀ v, sy_L lj_L0 v → sy_D rd_D0 v → post v) : wpY_init post := by
  have l4 : ∀ aN aJ aM : Nat → Int32, (∀ j, j < 5 → aN j = 1) → (∀ j, j < 3 → aJ j = 1) → (∀ j, j < 2 → aM j = 1) → ∃ n, wY_init_210 post (-1) 0 n 0 aN aJ aM (fun _ => 0) (fun _ => 0) (fun _ => 0) (fun _ => 0) (fun _ => 0) (fun _ => 0) (fun _ => 0) (fun _ => 0) (fun _ => 0) (fun _ => 0) (fun _ => 0) (fun _ => 0) (fun _ => 0) (fun _ => 0) (fun _ => 0) := by
    intro aN aJ aM hN hJ hM
    have key : ∀ k n i, i + k = 80 → k < n → ∀ aS : Nat → Int32, (∀ j, j < i → aS j = -1) → wY_init_210 post (-1) 0 n (nI i) aN aJ aM (fun _ => 0) (fun _ => 0) (fun _ => 0) (fun _ => 0) (fun _ => 0) aS (fun _ => 0) (fun _ => 0) (fun _ => 0) (fun _ => 0) (fun _ => 0) (fun _ => 0) (fun _ => 0) (fun _ => 0) (fun _ => 0) := by
      intro k
      induction k with
      | zero =>
        intro n i hi hn aS H
        obtain ⟨n, rfl⟩ : ∃ n', n = n' + 1 := ⟨n - 1, by omega⟩
        have e : i = 80 := by omega
        subst e
        refine br_t lb_t (hp _ ⟨?_, rfl, ?_, ?_, ?_, ?_, ?_, ?_, ?_⟩ ⟨?_, ?_, ?_, rfl⟩)
        · exact qt_m0.symm
        · intro j hj; rw [hJ j hj]; rfl
        · intro j hj; rw [hM j hj]; rfl
        · intro j hj; rfl
        · intro j hj; rfl
        · intro j hj; rfl
        · intro j hj; rfl
        · intro j k hj hk; exact absurd hk (Nat.not_lt_zero _)
        · intro j hj; rw [hN j hj]; rfl
        · intro c hc; rw [H c hc]; exact qt_m0.symm
        · intro c hc; rfl
      | succ k ih =>
        intro n i hi hn aS H
        obtain ⟨n, rfl⟩ : ∃ n', n = n' + 1 := ⟨n - 1, by omega⟩
        have hi' : i < 80 := by omega
        refine br_f (lb_f hi') ⟨vp_in_nI hi' (by decide), nm_e (nm_r (nI_1 i) (ih n (i + 1) (by omega) (by omega) _ (fun j hj => ?_)))⟩
        rw [nI_clamp (by omega)]
        by_cases z : j = i
        · subst z; rw [pk_us]
        · rw [pk_un z]; exact H j (by omega)
    exact ⟨81, key 80 81 0 (by omega) (by omega) _ (fun j hj => by omega)⟩
  have l3 : ∀ aN aJ : Nat → Int32, (∀ j, j < 5 → aN j = 1) → (∀ j, j < 3 → aJ j = 1) → ∃ n, wY_init_190 post (-1) 0 n 0 aN aJ (fun _ => 0) (fun _ => 0) (fun _ => 0) (fun _ => 0) (fun _ => 0) (fun _ => 0) (fun _ => 0) (fun _ => 0) (fun _ => 0) (fun _ => 0) (fun _ => 0) (fun _ => 0) (fun _ => 0) (fun _ => 0) (fun _ => 0) (fun _ => 0) := by
    intro aN aJ hN hJ
    have key : ∀ k n i, i + k = 2 → k < n → ∀ aM : Nat → Int32, (∀ j, j < i → aM j = 1) → wY_init_190 post (-1) 0 n (nI i) aN aJ aM (fun _ => 0) (fun _ => 0) (fun _ => 0) (fun _ => 0) (fun _ => 0) (fun _ => 0) (fun _ => 0) (fun _ => 0) (fun _ => 0) (fun _ => 0) (fun _ => 0) (fun _ => 0) (fun _ => 0) (fun _ => 0) (fun _ => 0) := by
      intro k
      induction k with
      | zero =>
        intro n i hi hn aM H
        obtain ⟨n, rfl⟩ : ∃ n', n = n' + 1 := ⟨n - 1, by omega⟩
        have e : i = 2 := by omega
        subst e
        exact br_t lb_t (l4 aN aJ aM hN hJ H)
      | succ k ih =>
        intro n i hi hn aM H
        obtain ⟨n, rfl⟩ : ∃ n', n = n' + 1 := ⟨n - 1, by omega⟩
        have hi' : i < 2 := by omega
        refine br_f (lb_f hi') ⟨vp_in_nI hi' (by decide), nm_e (nm_r (nI_1 i) (ih n (i + 1) (by omega) (by omega) _ (fun j hj => ?_)))⟩
        rw [nI_clamp (by omega)]
        by_cases z : j = i
        · subst z; rw [pk_us]; rfl
        · rw [pk_un z]; exact H j (by omega)
    exact ⟨3, key 2 3 0 (by omega) (by omega) _ (fun j hj => by omega)⟩
  have l2 : ∀ aN : Nat → Int32, (∀ j, j < 5 → aN j = 1) → ∃ n, wY_init_170 post (-1) 0 n 0 aN (fun _ => 0) (fun _ => 0) (fun _ => 0) (fun _ => 0) (fun _ => 0) (fun _ => 0) (fun _ => 0) (fun _ => 0) (fun _ => 0) (fun _ => 0) (fun _ => 0) (fun _ => 0) (fun _ => 0) (fun _ => 0) (fun _ => 0) (fun _ => 0) (fun _ => 0) := by
    intro aN hN
    have key : ∀ k n i, i + k = 3 → k < n → ∀ aJ : Nat → Int32, (∀ j, j < i → aJ j = 1) → wY_init_170 post (-1) 0 n (nI i) aN aJ (fun _ => 0) (fun _ => 0) (fun _ => 0) (fun _ => 0) (fun _ => 0) (fun _ => 0) (fun _ => 0) (fun _ => 0) (fun _ => 0) (fun _ => 0) (fun _ => 0) (fun _ => 0) (fun _ => 0) (fun _ => 0) (fun _ => 0) (fun _ => 0) := by
      intro k
      induction k with
      | zero =>
        intro n i hi hn aJ H
        obtain ⟨n, rfl⟩ : ∃ n', n = n' + 1 := ⟨n - 1, by omega⟩
        have e : i = 3 := by omega
        subst e
        exact br_t lb_t (l3 aN aJ hN H)
      | succ k ih =>
        intro n i hi hn aJ H
        obtain ⟨n, rfl⟩ : ∃ n', n = n' + 1 := ⟨n - 1, by omega⟩
        have hi' : i < 3 := by omega
        refine br_f (lb_f hi') ⟨vp_in_nI hi' (by decide), nm_e (nm_r (nI_1 i) (ih n (i + 1) (by omega) (by omega) _ (fun j hj => ?_)))⟩
        rw [nI_clamp (by omega)]
        by_cases z : j = i
        · subst z; rw [pk_us]; rfl
        · rw [pk_un z]; exact H j (by omega)
    exact ⟨4, key 3 4 0 (by omega) (by omega) _ (fun j hj => by omega)⟩
  have l1 : ∀ k n i, i + k = 5 → k < n → ∀ aN : Nat → Int32, (∀ j, j < i → aN j = 1) → wY_init_150 post (-1) 0 n (nI i) aN (fun _ => 0) (fun _ => 0) (fun _ => 0) (fun _ => 0) (fun _ => 0) (fun _ => 0) (fun _ => 0) (fun _ => 0) (fun _ => 0) (fun _ => 0) (fun _ => 0) (fun _ => 0) (fun _ => 0) (fun _ => 0) (fun _ => 0) (fun _ => 0) (fun _ => 0) := by
    intro k
    induction k with
    | zero =>
      intro n i hi hn aN H
      obtain ⟨n, rfl⟩ : ∃ n', n = n' + 1 := ⟨n - 1, by omega⟩
      have e : i = 5 := by omega
      subst e
      exact br_t lb_t (l2 aN H)
    | succ k ih =>
      intro n i hi hn aN H
      obtain ⟨n, rfl⟩ : ∃ n', n = n' + 1 := ⟨n - 1, by omega⟩
      have hi' : i < 5 := by omega
      refine br_f (lb_f hi') ⟨vp_in_nI hi' (by decide), nm_e (nm_r (nI_1 i) (ih n (i + 1) (by omega) (by omega) _ (fun j hj => ?_)))⟩
      rw [nI_clamp (by omega)]
      by_cases z : j = i
      · subst z; rw [pk_us]; rfl
      · rw [pk_un z]; exact H j (by omega)
  exact ⟨6, l1 5 6 0 (by omega) (by omega) _ (fun j hj => by omega)⟩
theorem i_vc0 : wpX_init (fun u => wpY_init (fun v => i_Rel 0 u v)) := by
  unfold wpX_init
  refine xm_forget (L := lj_L0) (D := rd_D0) ⟨qt_m0.symm, rfl, fun _ _ => rfl, fun _ _ => rfl, fun _ _ => rfl, fun _ _ => rfl, fun _ _ => rfl, fun _ _ => rfl, fun _ _ _ hk => absurd hk (Nat.not_lt_zero _)⟩ ⟨fun _ _ => rfl, fun _ _ => rfl, fun _ _ h => absurd rfl h, fun _ _ => rfl, rfl⟩ ?_
  rintro ⟨f_active, f_epoch, a_dataNodeDown, a_journalDown, a_masterDown, a_inTouch, a_promise, a_base, a_logLength, a_logEpoch, a_logKind, a_logA, a_logB, a_logC, a_inodeState, a_inodePlace, a_inodeClient, a_closeUnits, a_rowLength, a_rowBlock, a_blockStamp, a_replicaHeld, a_replicaStamp, a_unitCount, a_unitValue⟩ h1 h2 h3
  refine ym_init (fun v m1 m2 => ⟨qt_t0, _, _, h1, h2, h3, m1, m2, qt_iv0, ⟨by decide, by decide, fun _ _ => Nat.le_refl _, fun _ _ _ _ => Or.inl rfl, fun _ _ => ⟨fun k hk => absurd hk (Nat.not_lt_zero _), Nat.le_refl _, Nat.zero_le _, Nat.zero_le _⟩, fun h => absurd h (by decide)⟩, ⟨fun _ _ => Nat.zero_le _, fun _ _ => Nat.zero_le _⟩⟩)
