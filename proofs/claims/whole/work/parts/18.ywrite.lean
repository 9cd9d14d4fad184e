/-! writing records: the reference -/
section
variable {T : qt_T} {mu ju : Nat → Bool} {ac ep : Nat} {to : Nat → Bool} {pr ba le : Nat → Nat} {lg : Nat → Nat → qt_R} {nu : Nat → Bool} {st un : Nat → Nat} {ua : Nat → Int32}
theorem ym_tooMany {v : SY} (hL : sy_L (mu, ju, ac, ep, to, pr, ba, le, lg) v) (hl : ∀ j, j < 3 → ba j ≤ le j ∧ le j ≤ 1000) {post : Int32 → Prop} {R : Nat} (hR : R ≤ 2) (h1 : ¬ lj_rm (mu, ju, ac, ep, to, pr, ba, le, lg) R → post 1) (h0 : lj_rm (mu, ju, ac, ep, to, pr, ba, le, lg) R → post 0) : wpY_tooMany post v (nI R) := by
  obtain ⟨f_active, f_epoch, a_nodeUp, a_journalUp, a_masterUp, a_touch, a_log, a_many, a_promise, a_base, a_stamp, a_units, a_unit, a_sort, a_placeOf, a_client, a_rowLength, a_row, a_closedWith, a_stampOf⟩ := v
  obtain ⟨l1, l2, l3, l4, l5, l6, l7, l8, l9⟩ := hL
  have key : ∀ k n j, j + k = 3 → k < n → (∀ i, i < j → to i = true → (ju i = true → le i + R ≤ ba i + 40) ∧ le i + R ≤ 1000) → wY_tooMany_2 post (nI R) f_active f_epoch a_nodeUp a_journalUp a_masterUp a_touch a_log a_many a_promise a_base a_stamp a_units a_unit a_sort a_placeOf a_client a_rowLength a_row a_closedWith a_stampOf n (nI j) := by
    intro k
    induction k with
    | zero =>
      intro n j hj hn H
      obtain ⟨n, rfl⟩ : ∃ n', n = n' + 1 := ⟨n - 1, by omega⟩
      have e : j = 3 := by omega
      subst e
      exact br_t lb_t (h0 H)
    | succ k ih =>
      intro n j hj hn H
      obtain ⟨n, rfl⟩ : ∃ n', n = n' + 1 := ⟨n - 1, by omega⟩
      have hj3 : j < 3 := by omega
      obtain ⟨b1, b2⟩ := hl j hj3
      have hv := vp_in_nI hj3 (by decide : 3 < 2 ^ 31)
      have hc : (nI j).toNatClampNeg = j := nI_clamp (by omega)
      have bad : ¬ (to j = true → (ju j = true → le j + R ≤ ba j + 40) ∧ le j + R ≤ 1000) → post 1 := fun z => h1 (fun y => z (y j hj3))
      have go : (to j = true → (ju j = true → le j + R ≤ ba j + 40) ∧ le j + R ≤ 1000) → wY_tooMany_2 post (nI R) f_active f_epoch a_nodeUp a_journalUp a_masterUp a_touch a_log a_many a_promise a_base a_stamp a_units a_unit a_sort a_placeOf a_client a_rowLength a_row a_closedWith a_stampOf n (nI (j + 1)) := by
        intro z
        refine ih n (j + 1) (by omega) (by omega) (fun i hi => ?_)
        by_cases e : i = j
        · subst e; exact z
        · exact H i (by omega)
      have eadd : a_many (nI j).toNatClampNeg + nI R = nI (le j + R) := by rw [hc, l8 j hj3, nI_add]
      have esub : a_many (nI j).toNatClampNeg - a_base (nI j).toNatClampNeg + nI R = nI (le j - ba j + R) := by rw [hc, l7 j hj3, l8 j hj3, pk_sub b1, nI_add]
      have s48 : to j = true → (ju j = true → le j + R ≤ ba j + 40) → wY_tooMany_48 post (wY_tooMany_2 post (nI R) f_active f_epoch a_nodeUp a_journalUp a_masterUp a_touch a_log a_many a_promise a_base a_stamp a_units a_unit a_sort a_placeOf a_client a_rowLength a_row a_closedWith a_stampOf n) (nI R) (nI j) f_active f_epoch a_nodeUp a_journalUp a_masterUp a_touch a_log a_many a_promise a_base a_stamp a_units a_unit a_sort a_placeOf a_client a_rowLength a_row a_closedWith a_stampOf := by
        intro ht hx
        refine ⟨hv, ?_⟩
        rw [eadd]
        exact cd_if (nI_leI (b := 1000) (by omega) (by decide)) (fun y => nm_r (nI_1 j) (go (fun _ => ⟨hx, y⟩))) (fun y => bad (fun w => y (w ht).2))
      refine br_f (lb_f hj3) ⟨hv, cd_if (cd_p (l5 j hj3) (by omega)) (fun z => nm_r (nI_1 j) (go (fun y => by rw [z] at y; exact absurd y (by decide)))) (fun z => ⟨hv, cd_if (cd_p (l3 j hj3) (by omega)) (fun hu => s48 (by simpa using z) (fun x => by rw [hu] at x; exact absurd x (by decide))) (fun hu => ⟨hv, hv, ?_⟩)⟩)⟩
      rw [esub]
      have z' : to j = true := by simpa using z
      have hu' : ju j = true := by simpa using hu
      exact cd_if (nI_ltI (a := 40) (by decide) (by omega)) (fun y => bad (fun w => by have := (w z').1 hu'; omega)) (fun y => s48 z' (fun _ => by omega))
  exact ⟨4, key 3 4 0 (by omega) (by omega) (fun i hi => by omega)⟩
def lj_yI (n : Nat) (to ju : Nat → Bool) (le : Nat → Nat) (lg : Nat → Nat → qt_R) (r : qt_R) (aI aN : Nat → Int32) (aG : Nat → Int64) : Prop :=
  (∀ j, j < 3 → aI j = bo_p (if j < n then to j && ju j else to j)) ∧ (∀ j, j < 3 → aN j = nI (if lj_n n to ju j = true then le j + 1 else le j))
    ∧ (∀ j k, j < 3 → k < (if lj_n n to ju j = true then le j + 1 else le j) → aG (1001 * j + k) = lN (qt_pk (if lj_n n to ju j = true ∧ k = le j then r else lg j k)))
theorem lj_yI0 {n : Nat} {aI aI' aN : Nat → Int32} {aG : Nat → Int64} {r : qt_R} (H : lj_yI n to ju le lg r aI aN aG) (hn : n < 3) (hI : ∀ j, j ≠ n → aI' j = aI j) (hI2 : aI' n = bo_p (to n && ju n)) (hf : (to n && ju n) = false) : lj_yI (n + 1) to ju le lg r aI' aN aG := by
  have hz : ∀ j, lj_n (n + 1) to ju j = lj_n n to ju j := by
    intro j
    by_cases e : j = n
    · subst e; unfold lj_n; rw [hf]; simp
    · exact lj_nS e
  refine ⟨?_, ?_, ?_⟩
  · intro j hj
    by_cases e : j = n
    · subst e; rw [hI2, if_pos (by omega)]
    · rw [hI j e, H.1 j hj]
      by_cases l : j < n
      · rw [if_pos l, if_pos (by omega)]
      · rw [if_neg l, if_neg (by omega)]
  · intro j hj; rw [hz]; exact H.2.1 j hj
  · intro j k hj; rw [hz]; exact H.2.2 j k hj
theorem lj_yI1 {n : Nat} {aI aN : Nat → Int32} {aG : Nat → Int64} {r : qt_R} (H : lj_yI n to ju le lg r aI aN aG) (hn : n < 3) (hl3 : ∀ j, j < 3 → le j ≤ 1000) (hf : (to n && ju n) = true) :
    lj_yI (n + 1) to ju le lg r aI (upd aN n (nI (le n + 1))) (vp_updL aG (1001 * n + le n) (lN (qt_pk r))) := by
  have hz : lj_n (n + 1) to ju n = true := by unfold lj_n; rw [hf]; simp
  have hz0 : lj_n n to ju n = false := by unfold lj_n; simp
  refine ⟨?_, ?_, ?_⟩
  · intro j hj
    have := H.1 j hj
    rw [this]
    by_cases e : j = n
    · subst e
      rw [if_neg (by omega), if_pos (by omega), hf]
      rw [Bool.and_eq_true] at hf
      rw [hf.1]
    · by_cases l : j < n
      · rw [if_pos l, if_pos (by omega)]
      · rw [if_neg l, if_neg (by omega)]
  · intro j hj
    by_cases e : j = n
    · subst e; rw [pk_us, hz]; rfl
    · rw [pk_un e, lj_nS e]; exact H.2.1 j hj
  · intro j k hj hk
    by_cases e : j = n
    · subst e
      rw [hz] at hk ⊢
      by_cases z : k = le j
      · subst z
        rw [if_pos ⟨rfl, rfl⟩]
        exact pk_uLs
      · rw [if_neg (fun y => z y.2)]
        have hk' : k < le j + 1 := hk
        have := H.2.2 j k hj (by rw [hz0]; simp; omega)
        rw [hz0, if_neg (fun y => absurd y.1 (by decide))] at this
        rw [pk_uLn (by omega)]
        exact this
    · rw [lj_nS e] at hk ⊢
      have h1 := hl3 j hj
      have h2 := hl3 n hn
      have hk2 : k < 1001 := by
        split at hk <;> omega
      rw [pk_uLn (by omega)]
      exact H.2.2 j k hj hk
theorem ym_write {v : SY} (hL : sy_L (mu, ju, ac, ep, to, pr, ba, le, lg) v) (hD : sy_D (nu, st, un, ua) v) (hl3 : ∀ j, j < 3 → le j ≤ 1000) {q a b c : Nat} (ho : qt_rb (ep, q, a, b, c)) {post : Int32 → SY → Prop}
    (h1 : lj_kept (mu, ju, ac, ep, to, pr, ba, le, lg) = true → ∀ v', sy_L (lj_wr (mu, ju, ac, ep, to, pr, ba, le, lg) q a b c) v' → sy_D (nu, st, un, ua) v' → post 1 v')
    (h0 : lj_kept (mu, ju, ac, ep, to, pr, ba, le, lg) = false → ∀ v', sy_L (lj_wr (mu, ju, ac, ep, to, pr, ba, le, lg) q a b c) v' → sy_D (nu, st, un, ua) v' → post 0 v') : wpY_write post v (nI q) (nI a) (nI b) (qt_m c) := by
  obtain ⟨f_active, f_epoch, a_nodeUp, a_journalUp, a_masterUp, a_touch, a_log, a_many, a_promise, a_base, a_stamp, a_units, a_unit, a_sort, a_placeOf, a_client, a_rowLength, a_row, a_closedWith, a_stampOf⟩ := v
  obtain ⟨l1, l2, l3, l4, l5, l6, l7, l8, l9⟩ := hL
  obtain ⟨d1, d2, d3, d4⟩ := hD
  have key : ∀ m n i, i + m = 3 → m < n → ∀ (aI aN : Nat → Int32) (aG : Nat → Int64), lj_yI i to ju le lg (ep, q, a, b, c) aI aN aG → wY_write_6 post (nI q) (nI a) (nI b) (qt_m c) f_active f_epoch n (nI (rd_cn (fun j => to j && ju j) i)) (nI i) a_nodeUp a_journalUp a_masterUp aI aG aN a_promise a_base a_stamp a_units a_unit a_sort a_placeOf a_client a_rowLength a_row a_closedWith a_stampOf := by
    intro m
    induction m with
    | zero =>
      intro n i hi hn aI aN aG H
      obtain ⟨n, rfl⟩ : ∃ n', n = n' + 1 := ⟨n - 1, by omega⟩
      have e : i = 3 := by omega
      subst e
      have hcn := rd_cnL (fun j => to j && ju j) 3
      have hI3 : ∀ j, j < 3 → aI j = bo_p (to j && ju j) := by
        intro j hj
        have := H.1 j hj
        rw [if_pos hj] at this
        exact this
      have hN3 : ∀ j, j < 3 → aN j = nI (if (to j && ju j) = true then le j + 1 else le j) := by
        intro j hj
        have := H.2.1 j hj
        rw [lj_ifT hj] at this
        exact this
      have hC3 : ∀ j k, j < 3 → k < (if (to j && ju j) = true then le j + 1 else le j) → aG (1001 * j + k) = lN (qt_pk ((if (to j && ju j) = true then qt_uR (lg j) (le j) (ep, q, a, b, c) else lg j) k)) := by
        intro j k hj hk
        have := H.2.2 j k hj
        rw [lj_ifT hj] at this
        have e : (if (to j && ju j) = true then qt_uR (lg j) (le j) (ep, q, a, b, c) else lg j) k = if (to j && ju j) = true ∧ k = le j then (ep, q, a, b, c) else lg j k := by
          by_cases z : (to j && ju j) = true
          · rw [if_pos z]
            by_cases y : k = le j
            · rw [if_pos ⟨z, y⟩, y, qt_uRs]
            · rw [if_neg (fun w => y w.2), qt_uRn y]
          · rw [if_neg z, if_neg (fun w => z w.1)]
        rw [e]
        exact this hk
      refine br_t lb_t (cd_if ((nI_leI (a := 2) (by decide) (by omega)).trans lj_cnK) (fun z => ?_) (fun z => ?_))
      · have z2 := lj_cnK.mpr z
        refine br_f (fun y => ?_) (h1 z _ ⟨?_, l2, l3, l4, hI3, l6, l7, hN3, hC3⟩ ⟨d1, d2, d3, d4⟩)
        · have := (nI_leI (b := 1) (by omega) (by decide)).mp y
          omega
        · rw [if_pos z]; exact l1
      · have z2 : ¬ 2 ≤ rd_cn (fun j => to j && ju j) 3 := fun y => z (lj_cnK.mp y)
        have z' : lj_kp (fun j => to j && ju j) = false := by simpa using z
        refine br_t ((nI_leI (b := 1) (by omega) (by decide)).mpr (by omega)) (h0 z' _ ⟨?_, l2, l3, l4, hI3, l6, l7, hN3, hC3⟩ ⟨d1, d2, d3, d4⟩)
        rw [if_neg z]; rfl
    | succ m ih =>
      intro n i hi hn aI aN aG H
      obtain ⟨n, rfl⟩ : ∃ n', n = n' + 1 := ⟨n - 1, by omega⟩
      have hi3 : i < 3 := by omega
      have hv := vp_in_nI hi3 (by decide : 3 < 2 ^ 31)
      have hc : (nI i).toNatClampNeg = i := nI_clamp (by omega)
      have hIi : aI i = bo_p (to i) := by have := H.1 i hi3; rw [if_neg (by omega)] at this; exact this
      have hNi : aN i = nI (le i) := by
        have := H.2.1 i hi3
        have z : lj_n i to ju i = false := by unfold lj_n; simp
        rw [z] at this
        exact this
      have hle := hl3 i hi3
      have skip : (to i && ju i) = false → ∀ aI' : Nat → Int32, (∀ j, j ≠ i → aI' j = aI j) → aI' i = bo_p (to i && ju i) → wY_write_6 post (nI q) (nI a) (nI b) (qt_m c) f_active f_epoch n (nI (rd_cn (fun j => to j && ju j) i)) (nI (i + 1)) a_nodeUp a_journalUp a_masterUp aI' aG aN a_promise a_base a_stamp a_units a_unit a_sort a_placeOf a_client a_rowLength a_row a_closedWith a_stampOf := by
        intro hf aI' g1 g2
        have := ih n (i + 1) (by omega) (by omega) aI' aN aG (lj_yI0 H hi3 g1 g2 hf)
        rw [rd_cnF (f := fun j => to j && ju j) hf] at this
        exact this
      refine br_f (lb_f hi3) ⟨hv, cd_if (cd_p (l3 i hi3) (by omega)) (fun hu' => ?_) (fun hu => ?_)⟩
      · have hf : (to i && ju i) = false := by rw [hu']; cases to i <;> rfl
        have eI : upd aI i (vp_nar .boolean 0) i = bo_p (to i && ju i) := by rw [pk_us, hf]; rfl
        refine ⟨hv, nm_e ?_⟩
        rw [hc]
        exact ⟨hv, br_t (by rw [hc, pk_us]; rfl) (nm_r (nI_1 i) (skip hf _ (fun j hj => pk_un hj) eI))⟩
      · have hu' : ju i = true := by simpa using hu
        refine ⟨hv, cd_if (cd_p hIi (by omega)) (fun z => nm_r (nI_1 i) (skip (by rw [z]; rfl) aI (fun _ _ => rfl) (by rw [hIi, z]; rfl))) (fun z => ⟨hv, ?_⟩)⟩
        have z' : to i = true := by simpa using z
        have hf : (to i && ju i) = true := by rw [z', hu']; rfl
        rw [hc, hNi, nI_1, show 1001 * nI i + nI (le i) = nI (1001 * i + le i) from mu_l i 1001 (le i), show f_epoch = nI ep from l2, qt_pkW ho, show (nI (1001 * i + le i)).toNatClampNeg = 1001 * i + le i from nI_clamp (by omega)]
        have hvc := vp_in_nI (show 1001 * i + le i < 3003 by omega) (by decide)
        have := ih n (i + 1) (by omega) (by omega) _ _ _ (lj_yI1 H hi3 hl3 hf)
        rw [show f_epoch = nI ep from l2] at this
        exact ⟨hvc, nm_e ⟨hv, hv, nm_e (nm_r (rd_cnT (f := fun j => to j && ju j) hf) (nm_r (nI_1 i) this))⟩⟩
  refine ⟨4, key 3 4 0 (by omega) (by omega) _ _ _ ⟨?_, ?_, ?_⟩⟩
  · intro j hj
    rw [if_neg (by omega)]; exact l5 j hj
  · intro j hj
    rw [show lj_n 0 to ju j = false by unfold lj_n; simp]; exact l8 j hj
  · intro j k hj hk
    have e : lj_n 0 to ju j = false := by unfold lj_n; simp
    rw [e] at hk ⊢
    rw [if_neg (fun y => absurd y.1 (by decide))]
    exact l9 j k hj hk
end
