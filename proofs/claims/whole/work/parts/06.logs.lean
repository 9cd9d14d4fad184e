/-! the logs: pure -/
abbrev lj_L : Type := (Nat → Bool) × (Nat → Bool) × Nat × Nat × (Nat → Bool) × (Nat → Nat) × (Nat → Nat) × (Nat → Nat) × (Nat → Nat → qt_R)
abbrev rd_D : Type := (Nat → Bool) × (Nat → Nat) × (Nat → Nat) × (Nat → Int32)
def lj_src (to : Nat → Bool) : Nat := if to 0 = true then 0 else if to 1 = true then 1 else 2
def lj_two (to : Nat → Bool) : Prop := ∀ i j, i < j → j < 3 → to i = true ∨ to j = true
theorem lj_srcL (to : Nat → Bool) : lj_src to < 3 := by
  unfold lj_src; split
  · decide
  · split <;> decide
theorem lj_srcT {to : Nat → Bool} (h : lj_two to) : to (lj_src to) = true := by
  unfold lj_src
  split
  · assumption
  · split
    · assumption
    · rename_i h0 h1
      rcases h 0 2 (by decide) (by decide) with z | z
      · exact absurd z h0
      · exact z
def lj_kp (to : Nat → Bool) : Bool := (to 0 && to 1) || (to 0 && to 2) || (to 1 && to 2)
theorem lj_kpT {to : Nat → Bool} (h : lj_kp to = true) : lj_two to := by
  unfold lj_kp at h
  intro i j hi hj
  have hc : (i = 0 ∧ j = 1) ∨ (i = 0 ∧ j = 2) ∨ (i = 1 ∧ j = 2) := by omega
  rcases hc with ⟨rfl, rfl⟩ | ⟨rfl, rfl⟩ | ⟨rfl, rfl⟩ <;> revert h <;> cases to 0 <;> cases to 1 <;> cases to 2 <;> decide
def lj_sh (to : Nat → Bool) (le : Nat → Nat) (lg : Nat → Nat → qt_R) : Prop := ∀ j, j < 3 → to j = true → le j = le (lj_src to) ∧ ∀ k, k < le (lj_src to) → lg j k = lg (lj_src to) k
def lj_iv (k : Nat) (L : lj_L) (T : qt_T) : Prop :=
  match L with
  | (_, _, ac, ep, to, pr, ba, le, lg) =>
    4 * ep ≤ k ∧ ac ≤ 2 ∧ (∀ j, j < 3 → pr j ≤ ep) ∧ (∀ i j, i < j → j < 3 → pr i = ep ∨ pr j = ep)
      ∧ (∀ j, j < 3 → qt_wf (lg j) (le j) ∧ ba j ≤ le j ∧ le j ≤ ba j + 40 ∧ le j ≤ 1000)
      ∧ (0 < ac → lj_two to ∧ lj_sh to le lg ∧ T = qt_ab (lg (lj_src to)) (le (lj_src to)))
def lj_wr (L : lj_L) (q a b c : Nat) : lj_L :=
  match L with
  | (mu, ju, ac, ep, to, pr, ba, le, lg) =>
    (mu, ju, (if lj_kp (fun j => to j && ju j) = true then ac else 0), ep, (fun j => to j && ju j), pr, ba, (fun j => if (to j && ju j) = true then le j + 1 else le j), (fun j => if (to j && ju j) = true then qt_uR (lg j) (le j) (ep, q, a, b, c) else lg j))
def lj_kept (L : lj_L) : Bool := match L with | (_, ju, _, _, to, _, _, _, _) => lj_kp (fun j => to j && ju j)
def lj_len (L : lj_L) : Nat := match L with | (_, _, _, _, to, _, _, le, _) => le (lj_src to)
def lj_ep (L : lj_L) : Nat := L.2.2.2.1
def lj_ac (L : lj_L) : Nat := L.2.2.1
/-- room for n records more -/
def lj_rm (L : lj_L) (n : Nat) : Prop := match L with | (_, ju, _, _, to, _, ba, le, _) => ∀ j, j < 3 → to j = true → (ju j = true → le j + n ≤ ba j + 40) ∧ le j + n ≤ 1000
theorem lj_wrI {k : Nat} {L : lj_L} {T : qt_T} {q a b c : Nat} (I : lj_iv k L T) (ha : 0 < lj_ac L) (hr : lj_rm L 1) (ho : qt_ok T (lj_ep L, q, a, b, c)) :
    lj_iv k (lj_wr L q a b c) (if lj_kept L = true then qt_ap T (lj_ep L, q, a, b, c) (lj_len L) else T) := by
  obtain ⟨mu, ju, ac, ep, to, pr, ba, le, lg⟩ := L
  obtain ⟨i1, i2, i3, i4, i5, i6⟩ := I
  obtain ⟨t2, sh, eT⟩ := i6 ha
  have hT : ∀ j, j < 3 → to j = true → qt_ab (lg j) (le j) = T := by
    intro j hj ht
    obtain ⟨e1, e2⟩ := sh j hj ht
    rw [eT, e1]
    exact qt_abC e2
  refine ⟨i1, ?_, i3, i4, ?_, ?_⟩
  · show (if lj_kp (fun j => to j && ju j) = true then ac else 0) ≤ 2
    split <;> omega
  · intro j hj
    obtain ⟨w, b1, b2, b3⟩ := i5 j hj
    show qt_wf (if (to j && ju j) = true then qt_uR (lg j) (le j) (ep, q, a, b, c) else lg j) (if (to j && ju j) = true then le j + 1 else le j) ∧ ba j ≤ (if (to j && ju j) = true then le j + 1 else le j) ∧ (if (to j && ju j) = true then le j + 1 else le j) ≤ ba j + 40 ∧ (if (to j && ju j) = true then le j + 1 else le j) ≤ 1000
    by_cases h : (to j && ju j) = true
    · rw [if_pos h, if_pos h]
      rw [Bool.and_eq_true] at h
      have r := hr j hj h.1
      have r1 := r.1 h.2
      refine ⟨qt_wfU w ?_, by omega, r1, r.2⟩
      rw [hT j hj h.1]
      exact ho
    · rw [if_neg h, if_neg h]
      exact ⟨w, b1, b2, b3⟩
  · show 0 < (if lj_kp (fun j => to j && ju j) = true then ac else 0) → _
    intro hp
    have hk : lj_kp (fun j => to j && ju j) = true := by
      by_cases h : lj_kp (fun j => to j && ju j) = true
      · exact h
      · rw [if_neg h] at hp; omega
    have h2 : lj_two (fun j => to j && ju j) := lj_kpT hk
    have hs := lj_srcT h2
    have hsl := lj_srcL (fun j => to j && ju j)
    refine ⟨h2, ?_, ?_⟩
    · intro j hj htj
      have htj' : (to j && ju j) = true := htj
      generalize lj_src (fun j => to j && ju j) = s at hs hsl
      have hs' : (to s && ju s) = true := hs
      dsimp only
      rw [if_pos htj', if_pos hs', if_pos htj', if_pos hs']
      rw [Bool.and_eq_true] at htj' hs'
      obtain ⟨e1, e2⟩ := sh j hj htj'.1
      obtain ⟨f1, f2⟩ := sh s hsl hs'.1
      refine ⟨by omega, ?_⟩
      intro k hk'
      by_cases z : k = le s
      · rw [e1, f1, z, f1, qt_uRs, qt_uRs]
      · rw [qt_uRn (by omega), qt_uRn z, e2 k (by omega), f2 k (by omega)]
    · generalize lj_src (fun j => to j && ju j) = s at hs hsl
      have hs' : (to s && ju s) = true := hs
      show (if lj_kp (fun j => to j && ju j) = true then qt_ap T (ep, q, a, b, c) (le (lj_src to)) else T) = _
      dsimp only
      rw [if_pos hk, if_pos hs', if_pos hs', qt_abU]
      rw [Bool.and_eq_true] at hs'
      rw [hT s hsl hs'.1, (sh s hsl hs'.1).1]
theorem lj_wrR {L : lj_L} {q a b c n : Nat} (h : lj_rm L (n + 1)) : lj_rm (lj_wr L q a b c) n := by
  obtain ⟨mu, ju, ac, ep, to, pr, ba, le, lg⟩ := L
  intro j hj ht
  have ht' : (to j && ju j) = true := ht
  show (ju j = true → (if (to j && ju j) = true then le j + 1 else le j) + n ≤ ba j + 40) ∧ (if (to j && ju j) = true then le j + 1 else le j) + n ≤ 1000
  rw [if_pos ht']
  rw [Bool.and_eq_true] at ht'
  have r := h j hj ht'.1
  exact ⟨fun z => by have := r.1 z; omega, by have := r.2; omega⟩
theorem lj_wrN {k : Nat} {L : lj_L} {T : qt_T} {q a b c : Nat} (I : lj_iv k L T) (ha : 0 < lj_ac L) (hk : lj_kept L = true) : lj_len (lj_wr L q a b c) = lj_len L + 1 ∧ lj_ac (lj_wr L q a b c) = lj_ac L ∧ lj_ep (lj_wr L q a b c) = lj_ep L := by
  obtain ⟨mu, ju, ac, ep, to, pr, ba, le, lg⟩ := L
  obtain ⟨i1, i2, i3, i4, i5, i6⟩ := I
  obtain ⟨t2, sh, eT⟩ := i6 ha
  have hk' : lj_kp (fun j => to j && ju j) = true := hk
  have hs := lj_srcT (lj_kpT hk')
  have hsl := lj_srcL (fun j => to j && ju j)
  refine ⟨?_, ?_, rfl⟩
  · show (if (to (lj_src (fun j => to j && ju j)) && ju (lj_src (fun j => to j && ju j))) = true then le (lj_src (fun j => to j && ju j)) + 1 else le (lj_src (fun j => to j && ju j))) = le (lj_src to) + 1
    generalize lj_src (fun j => to j && ju j) = s at hs hsl
    have hs' : (to s && ju s) = true := hs
    rw [if_pos hs']
    rw [Bool.and_eq_true] at hs'
    rw [(sh s hsl hs'.1).1]
  · show (if lj_kp (fun j => to j && ju j) = true then ac else 0) = ac
    rw [if_pos hk']
theorem lj_wrA {L : lj_L} {q a b c : Nat} (hk : lj_kept L = false) : lj_ac (lj_wr L q a b c) = 0 ∧ lj_ep (lj_wr L q a b c) = lj_ep L := by
  obtain ⟨mu, ju, ac, ep, to, pr, ba, le, lg⟩ := L
  have hk' : lj_kp (fun j => to j && ju j) = false := hk
  refine ⟨?_, rfl⟩
  show (if lj_kp (fun j => to j && ju j) = true then ac else 0) = 0
  rw [if_neg (by rw [hk']; decide)]
/-- what holds of the replicas -/
def rd_iv (L : lj_L) (D : rd_D) : Prop :=
  match D with
  | (_, st, un, _) => (∀ c, c < 80 → st c ≤ if 0 < lj_ac L then 2048 * lj_ep L + lj_len L else 2048 * (lj_ep L + 1)) ∧ ∀ c, c < 80 → un c ≤ 8
