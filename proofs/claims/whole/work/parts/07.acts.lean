/-! takeover, fold, power: pure -/
def lj_le (le : Nat → Nat) (lg : Nat → Nat → qt_R) (j : Nat) : Nat := if le j = 0 then 0 else (lg j (le j - 1)).1
theorem lj_leL {le : Nat → Nat} {lg : Nat → Nat → qt_R} {j : Nat} (w : qt_wf (lg j) (le j)) : lj_le le lg j ≤ 512 := by
  unfold lj_le
  split
  · omega
  · exact (qt_okB (w (le j - 1) (by omega))).1
def lj_gp (ju : Nat → Bool) (pr : Nat → Nat) : Nat → Nat
  | 0 => 0
  | n + 1 => if ju n = true ∧ lj_gp ju pr n < pr n then pr n else lj_gp ju pr n
theorem lj_gpS (ju : Nat → Bool) (pr : Nat → Nat) (n : Nat) : lj_gp ju pr (n + 1) = if ju n = true ∧ lj_gp ju pr n < pr n then pr n else lj_gp ju pr n := rfl
theorem lj_gpB {ju : Nat → Bool} {pr : Nat → Nat} {ep : Nat} (h : ∀ j, j < 3 → pr j ≤ ep) : ∀ {n : Nat}, n ≤ 3 → lj_gp ju pr n ≤ ep := by
  intro n
  induction n with
  | zero => intro _; exact Nat.zero_le _
  | succ n ih =>
    intro hn
    have := ih (by omega)
    have := h n (by omega)
    rw [lj_gpS]
    split <;> omega
theorem lj_gpU {ju : Nat → Bool} {pr : Nat → Nat} : ∀ {n j : Nat}, j < n → ju j = true → pr j ≤ lj_gp ju pr n := by
  intro n
  induction n with
  | zero => intro j h; omega
  | succ n ih =>
    intro j hj hu
    rw [lj_gpS]
    by_cases e : j = n
    · subst e
      by_cases z : lj_gp ju pr j < pr j
      · rw [if_pos ⟨hu, z⟩]; omega
      · rw [if_neg (fun y => z y.2)]; omega
    · have := ih (j := j) (by omega) hu
      split <;> omega
theorem lj_cn2 {ju : Nat → Bool} (h : 2 ≤ rd_cn ju 3) : lj_two ju := by
  have h' : 2 ≤ 0 + (if ju 0 then 1 else 0) + (if ju 1 then 1 else 0) + (if ju 2 then 1 else 0) := h
  intro i j hi hj
  have hc : (i = 0 ∧ j = 1) ∨ (i = 0 ∧ j = 2) ∨ (i = 1 ∧ j = 2) := by omega
  rcases hc with ⟨rfl, rfl⟩ | ⟨rfl, rfl⟩ | ⟨rfl, rfl⟩ <;> revert h' <;> cases ju 0 <;> cases ju 1 <;> cases ju 2 <;> decide
theorem lj_gpE {ju : Nat → Bool} {pr : Nat → Nat} {ep : Nat} (h : ∀ j, j < 3 → pr j ≤ ep) (h2 : ∀ i j, i < j → j < 3 → pr i = ep ∨ pr j = ep) (hu : lj_two ju) : lj_gp ju pr 3 = ep := by
  have hb := lj_gpB (ju := ju) h (n := 3) (by decide)
  have hx : ∃ j, j < 3 ∧ ju j = true ∧ pr j = ep := by
    by_cases a0 : pr 0 = ep
    · by_cases a1 : pr 1 = ep
      · rcases hu 0 1 (by decide) (by decide) with z | z
        · exact ⟨0, by decide, z, a0⟩
        · exact ⟨1, by decide, z, a1⟩
      · rcases h2 1 2 (by decide) (by decide) with z | a2
        · exact absurd z a1
        · rcases hu 0 2 (by decide) (by decide) with z | z
          · exact ⟨0, by decide, z, a0⟩
          · exact ⟨2, by decide, z, a2⟩
    · rcases h2 0 1 (by decide) (by decide) with z | a1
      · exact absurd z a0
      · rcases h2 0 2 (by decide) (by decide) with z | a2
        · exact absurd z a0
        · rcases hu 1 2 (by decide) (by decide) with z | z
          · exact ⟨1, by decide, z, a1⟩
          · exact ⟨2, by decide, z, a2⟩
  obtain ⟨j, hj, hj2, hj3⟩ := hx
  have := lj_gpU (pr := pr) hj hj2
  omega
/-- the best log's journal, and 1 (B: better) -/
def lj_bt (B : Nat → Nat → Bool) (ju : Nat → Bool) : Nat → Nat
  | 0 => 0
  | n + 1 => if ju n = true ∧ (lj_bt B ju n = 0 ∨ B n (lj_bt B ju n - 1) = true) then n + 1 else lj_bt B ju n
theorem lj_btS (B : Nat → Nat → Bool) (ju : Nat → Bool) (n : Nat) : lj_bt B ju (n + 1) = if ju n = true ∧ (lj_bt B ju n = 0 ∨ B n (lj_bt B ju n - 1) = true) then n + 1 else lj_bt B ju n := rfl
theorem lj_btP {B : Nat → Nat → Bool} {ju : Nat → Bool} : ∀ {n : Nat}, lj_bt B ju n = 0 ∨ (lj_bt B ju n ≤ n ∧ ju (lj_bt B ju n - 1) = true) := by
  intro n
  induction n with
  | zero => exact Or.inl rfl
  | succ n ih =>
    rw [lj_btS]
    split
    · rename_i h
      exact Or.inr ⟨Nat.le_refl _, h.1⟩
    · rcases ih with ih | ih
      · exact Or.inl ih
      · exact Or.inr ⟨by omega, ih.2⟩
theorem lj_bt0 {B : Nat → Nat → Bool} {ju : Nat → Bool} : ∀ {n d : Nat}, d < n → ju d = true → lj_bt B ju n ≠ 0 := by
  intro n
  induction n with
  | zero => intro d h; omega
  | succ n ih =>
    intro d hd h2
    rw [lj_btS]
    by_cases e : d = n
    · subst e
      split
      · omega
      · rename_i h
        intro z
        exact h ⟨h2, Or.inl z⟩
    · have := ih (d := d) (by omega) h2
      split <;> omega
def lj_B (le : Nat → Nat) (lg : Nat → Nat → qt_R) (j i : Nat) : Bool := decide (lj_le le lg i < lj_le le lg j ∨ (lj_le le lg j = lj_le le lg i ∧ le i < le j))
def lj_s (ju : Nat → Bool) (le : Nat → Nat) (lg : Nat → Nat → qt_R) : Nat := lj_bt (lj_B le lg) ju 3 - 1
theorem lj_sP {ju : Nat → Bool} {le : Nat → Nat} {lg : Nat → Nat → qt_R} (h : lj_two ju) : lj_s ju le lg < 3 ∧ ju (lj_s ju le lg) = true ∧ lj_bt (lj_B le lg) ju 3 = lj_s ju le lg + 1 := by
  have h0 : lj_bt (lj_B le lg) ju 3 ≠ 0 := by
    rcases h 0 1 (by decide) (by decide) with z | z
    · exact lj_bt0 (by decide) z
    · exact lj_bt0 (by decide) z
  rcases lj_btP (B := lj_B le lg) (ju := ju) (n := 3) with z | ⟨z1, z2⟩
  · exact absurd z h0
  · unfold lj_s
    exact ⟨by omega, z2, by omega⟩
def lj_tk (L : lj_L) (m : Nat) : lj_L :=
  match L with
  | (mu, ju, _, _, _, pr, ba, le, lg) =>
    (mu, ju, m + 1, lj_gp ju pr 3 + 1, ju, (fun j => if ju j = true then lj_gp ju pr 3 + 1 else pr j), (fun j => if ju j = true then ba (lj_s ju le lg) else ba j), (fun j => if ju j = true then le (lj_s ju le lg) else le j), (fun j => if ju j = true then lg (lj_s ju le lg) else lg j))
def lj_tkT (L : lj_L) : qt_T := match L with | (_, ju, _, _, _, _, _, le, lg) => qt_ab (lg (lj_s ju le lg)) (le (lj_s ju le lg))
def lj_up (L : lj_L) : Nat → Bool := L.2.1
theorem lj_tkI {k m : Nat} {L : lj_L} {T : qt_T} (I : lj_iv k L T) (hm : m < 2) (hu : 2 ≤ rd_cn (lj_up L) 3) : lj_iv (k + 4) (lj_tk L m) (lj_tkT L) ∧ lj_ep (lj_tk L m) = lj_ep L + 1 := by
  obtain ⟨mu, ju, ac, ep, to, pr, ba, le, lg⟩ := L
  obtain ⟨i1, i2, i3, i4, i5, i6⟩ := I
  have h2 : lj_two ju := lj_cn2 hu
  have hg := lj_gpE i3 i4 h2
  obtain ⟨s1, s2, s3⟩ := lj_sP (le := le) (lg := lg) h2
  have hs := lj_srcT h2
  refine ⟨⟨?_, by omega, ?_, ?_, ?_, ?_⟩, by show lj_gp ju pr 3 + 1 = ep + 1; rw [hg]⟩
  · rw [hg]; omega
  · intro j hj
    have := i3 j hj
    show (if ju j = true then lj_gp ju pr 3 + 1 else pr j) ≤ lj_gp ju pr 3 + 1
    rw [hg]
    split <;> omega
  · intro i j hi hj
    show (if ju i = true then lj_gp ju pr 3 + 1 else pr i) = lj_gp ju pr 3 + 1 ∨ (if ju j = true then lj_gp ju pr 3 + 1 else pr j) = lj_gp ju pr 3 + 1
    rcases h2 i j hi hj with z | z
    · left; rw [if_pos z]
    · right; rw [if_pos z]
  · intro j hj
    show qt_wf (if ju j = true then lg (lj_s ju le lg) else lg j) (if ju j = true then le (lj_s ju le lg) else le j) ∧ (if ju j = true then ba (lj_s ju le lg) else ba j) ≤ (if ju j = true then le (lj_s ju le lg) else le j) ∧ (if ju j = true then le (lj_s ju le lg) else le j) ≤ (if ju j = true then ba (lj_s ju le lg) else ba j) + 40 ∧ (if ju j = true then le (lj_s ju le lg) else le j) ≤ 1000
    by_cases z : ju j = true
    · rw [if_pos z, if_pos z, if_pos z]; exact i5 _ s1
    · rw [if_neg z, if_neg z, if_neg z]; exact i5 j hj
  · intro _
    refine ⟨h2, ?_, ?_⟩
    · intro j hj hj2
      show (if ju j = true then le (lj_s ju le lg) else le j) = (if ju (lj_src ju) = true then le (lj_s ju le lg) else le (lj_src ju)) ∧ ∀ k, k < (if ju (lj_src ju) = true then le (lj_s ju le lg) else le (lj_src ju)) → (if ju j = true then lg (lj_s ju le lg) else lg j) k = (if ju (lj_src ju) = true then lg (lj_s ju le lg) else lg (lj_src ju)) k
      rw [if_pos hj2, if_pos hs, if_pos hj2, if_pos hs]
      exact ⟨rfl, fun _ _ => rfl⟩
    · show qt_ab (lg (lj_s ju le lg)) (le (lj_s ju le lg)) = qt_ab (if ju (lj_src ju) = true then lg (lj_s ju le lg) else lg (lj_src ju)) (if ju (lj_src ju) = true then le (lj_s ju le lg) else le (lj_src ju))
      rw [if_pos hs, if_pos hs]
def lj_fo (L : lj_L) : lj_L :=
  match L with
  | (mu, ju, ac, ep, to, pr, ba, le, lg) => (mu, ju, ac, ep, to, pr, (fun j => if (to j && ju j) = true then le j else ba j), le, lg)
theorem lj_foI {k : Nat} {L : lj_L} {T : qt_T} (I : lj_iv k L T) : lj_iv k (lj_fo L) T := by
  obtain ⟨mu, ju, ac, ep, to, pr, ba, le, lg⟩ := L
  obtain ⟨i1, i2, i3, i4, i5, i6⟩ := I
  refine ⟨i1, i2, i3, i4, ?_, i6⟩
  intro j hj
  obtain ⟨w, b1, b2, b3⟩ := i5 j hj
  show qt_wf (lg j) (le j) ∧ (if (to j && ju j) = true then le j else ba j) ≤ le j ∧ le j ≤ (if (to j && ju j) = true then le j else ba j) + 40 ∧ le j ≤ 1000
  refine ⟨w, ?_, ?_, b3⟩ <;> split <;> omega
theorem lj_ivK {k k' : Nat} {L : lj_L} {T : qt_T} (h : k ≤ k') (I : lj_iv k L T) : lj_iv k' L T := by
  obtain ⟨mu, ju, ac, ep, to, pr, ba, le, lg⟩ := L
  obtain ⟨i1, i2⟩ := I
  exact ⟨by omega, i2⟩
/-! units go on: pure -/
def rd_lo (f : Nat → Bool) : Nat → Nat
  | 0 => 0
  | n + 1 => if f n = true then n + 1 else rd_lo f n
theorem rd_loP {f : Nat → Bool} : ∀ {n : Nat}, rd_lo f n = 0 ∨ (rd_lo f n ≤ n ∧ f (rd_lo f n - 1) = true) := by
  intro n
  induction n with
  | zero => exact Or.inl rfl
  | succ n ih =>
    show (if f n = true then n + 1 else rd_lo f n) = 0 ∨ ((if f n = true then n + 1 else rd_lo f n) ≤ n + 1 ∧ f ((if f n = true then n + 1 else rd_lo f n) - 1) = true)
    split
    · rename_i h
      exact Or.inr ⟨Nat.le_refl _, h⟩
    · rcases ih with ih | ih
      · exact Or.inl ih
      · exact Or.inr ⟨by omega, ih.2⟩
/-- node d gets a unit from the nearest lower one -/
def rd_pd (f : Nat → Bool) (un : Nat → Nat) (b d : Nat) : Prop := f d = true ∧ 0 < rd_lo f d ∧ un (16 * d + b) < un (16 * (rd_lo f d - 1) + b)
/-- the last block of a file that is being written -/
def qt_ol (T : qt_T) (b : Nat) : Prop := ∃ f, f < 12 ∧ qt_so T f = 2 ∧ 0 < qt_rl T f ∧ qt_ro T (3 * f + (qt_rl T f - 1)) = b
theorem qt_olI {T : qt_T} {b : Nat} (h : qt_ol T b) : qt_in (qt_rl T) (qt_ro T) b := by
  obtain ⟨f, h1, h2, h3, h4⟩ := h
  exact ⟨f, qt_rl T f - 1, h1, by omega, h4⟩
def rd_pg (T : qt_T) (nu : Nat → Bool) (st un : Nat → Nat) (b : Nat) : Prop := qt_ol T b ∧ ∃ d, d < 5 ∧ rd_pd (rd_g nu st b (qt_sp T b)) un b d
def rd_ps (D : rd_D) (b d e : Nat) : rd_D :=
  match D with
  | (nu, st, un, ua) => (nu, st, qt_u un (16 * d + b) (un (16 * d + b) + 1), upd ua (8 * (16 * d + b) + un (16 * d + b)) (ua (8 * (16 * e + b) + un (16 * d + b))))
/-! tend: pure -/
def rd_dr (keep : Nat → Bool) (d n : Nat) (st : Nat → Nat) : Nat → Nat := fun c => if c / 16 = d ∧ c % 16 < n ∧ keep (c % 16) = false then 0 else st c
theorem rd_dr0 {keep : Nat → Bool} {d : Nat} {st : Nat → Nat} : rd_dr keep d 0 st = st := by
  funext c
  unfold rd_dr
  simp
theorem rd_drS {keep : Nat → Bool} {d n c : Nat} {st : Nat → Nat} (hn : n < 16) : rd_dr keep d (n + 1) st c = if c = 16 * d + n ∧ keep n = false then 0 else rd_dr keep d n st c := by
  unfold rd_dr
  by_cases h : c = 16 * d + n
  · subst h
    have h1 : (16 * d + n) / 16 = d := by omega
    have h2 : (16 * d + n) % 16 = n := by omega
    rw [h1, h2]
    by_cases z : keep n = false
    · rw [if_pos ⟨rfl, by omega, z⟩, if_pos ⟨rfl, z⟩]
    · rw [if_neg (fun y => z y.2.2), if_neg (fun y => z y.2), if_neg (fun y => z y.2.2)]
  · rw [if_neg (c := c = 16 * d + n ∧ keep n = false) (fun y => h y.1)]
    by_cases h1 : c / 16 = d
    · have h2 : (c % 16 < n + 1) ↔ (c % 16 < n) := by omega
      simp only [h1, h2]
    · rw [if_neg (c := c / 16 = d ∧ c % 16 < n + 1 ∧ keep (c % 16) = false) (fun y => h1 y.1), if_neg (c := c / 16 = d ∧ c % 16 < n ∧ keep (c % 16) = false) (fun y => h1 y.1)]
theorem rd_drN {keep : Nat → Bool} {d n e b : Nat} {st : Nat → Nat} (hb : b < 16) (h : n ≤ b) : rd_dr keep d n st (16 * e + b) = st (16 * e + b) := by
  unfold rd_dr
  rw [if_neg]
  intro y
  omega
theorem rd_drB {keep : Nat → Bool} {d n c B : Nat} {st : Nat → Nat} (h : st c ≤ B) : rd_dr keep d n st c ≤ B := by
  unfold rd_dr
  split <;> omega
def rd_cp (ua : Nat → Int32) (to fr : Nat) : Nat → Nat → Int32
  | 0 => ua
  | n + 1 => upd (rd_cp ua to fr n) (8 * to + n) (rd_cp ua to fr n (8 * fr + n))
