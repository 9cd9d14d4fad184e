/-! the pure tables: what records say -/
abbrev qt_T : Type := (Nat → Nat) × (Nat → Nat) × (Nat → Nat) × (Nat → Nat) × (Nat → Nat) × (Nat → Nat) × (Nat → Nat)
abbrev qt_R : Type := Nat × Nat × Nat × Nat × Nat
def qt_u (f : Nat → Nat) (k x : Nat) : Nat → Nat := fun j => if j = k then x else f j
theorem qt_us {f : Nat → Nat} {k x : Nat} : qt_u f k x k = x := if_pos rfl
theorem qt_un {f : Nat → Nat} {k x j : Nat} (h : j ≠ k) : qt_u f k x j = f j := if_neg h
def qt_m (n : Nat) : Int32 := nI n - 1
theorem qt_m0 : qt_m 0 = -1 := by decide +kernel
theorem qt_ms (n : Nat) : qt_m (n + 1) = nI n := nI_pred n
def qt_so (t : qt_T) : Nat → Nat := t.1
def qt_pl (t : qt_T) : Nat → Nat := t.2.1
def qt_cl (t : qt_T) : Nat → Nat := t.2.2.1
def qt_cw (t : qt_T) : Nat → Nat := t.2.2.2.1
def qt_rl (t : qt_T) : Nat → Nat := t.2.2.2.2.1
def qt_ro (t : qt_T) : Nat → Nat := t.2.2.2.2.2.1
def qt_sp (t : qt_T) : Nat → Nat := t.2.2.2.2.2.2
def qt_t0 : qt_T := (qt_u (fun _ => 0) 0 1, fun _ => 0, fun _ => 0, fun _ => 0, fun _ => 0, fun _ => 0, fun _ => 0)
/-- the directory in which an inode lies; the root's is the root -/
def qt_pa (pl : Nat → Nat) (i : Nat) : Nat := (pl i - 1) / 8
def qt_an (pl : Nat → Nat) : Nat → Nat → Nat
  | 0, x => x
  | n + 1, x => qt_an pl n (qt_pa pl x)
/-- some block of a row is b -/
def qt_in (rl ro : Nat → Nat) (b : Nat) : Prop := ∃ i k : Nat, i < 12 ∧ k < rl i ∧ ro (3 * i + k) = b
def qt_ap (t : qt_T) (r : qt_R) (k : Nat) : qt_T :=
  match t, r with
  | (so, pl, cl, cw, rl, ro, sp), (e, q, a, b, c) =>
    if q = 0 then (qt_u so a (if c = 0 then 1 else 2), qt_u pl a (b + 1), qt_u cl a c, qt_u cw a 0, qt_u rl a 0, ro, sp)
    else if q = 1 then (so, pl, cl, cw, qt_u rl a (rl a + 1), qt_u ro (3 * a + rl a) b, qt_u sp b (2048 * e + k))
    else if q = 2 then (so, pl, cl, cw, rl, ro, qt_u sp a (2048 * e + k))
    else if q = 3 then (qt_u so a 3, pl, cl, qt_u cw a b, (if b = 0 then qt_u rl a (rl a - 1) else rl), ro, sp)
    else if q = 4 then (qt_u so a 0, pl, cl, cw, qt_u rl a 0, ro, sp)
    else (so, qt_u pl a (b + 1), cl, cw, rl, ro, sp)
def qt_ab (lg : Nat → qt_R) : Nat → qt_T
  | 0 => qt_t0
  | n + 1 => qt_ap (qt_ab lg n) (lg n) n
/-- what is tested ahead of a record -/
def qt_ok (t : qt_T) (r : qt_R) : Prop :=
  match t, r with
  | (so, pl, _, _, rl, _, _), (e, q, a, b, c) =>
    e ≤ 512 ∧ ((q = 0 ∧ 1 ≤ a ∧ a < 12 ∧ so a = 0 ∧ b < 96 ∧ so (b / 8) = 1 ∧ c ≤ 4)
      ∨ (q = 1 ∧ a < 12 ∧ so a = 2 ∧ rl a < 3 ∧ b < 16 ∧ c = 1)
      ∨ (q = 2 ∧ a < 16 ∧ b = 0 ∧ c = 1)
      ∨ (q = 3 ∧ a < 12 ∧ so a = 2 ∧ b ≤ 8 ∧ c = 1)
      ∨ (q = 4 ∧ 1 ≤ a ∧ a < 12 ∧ b = 0 ∧ c = 1 ∧ (so a = 3 ∨ (so a = 1 ∧ ∀ x, 1 ≤ x → x < 12 → so x ≠ 0 → qt_pa pl x ≠ a)))
      ∨ (q = 5 ∧ 1 ≤ a ∧ a < 12 ∧ so a ≠ 0 ∧ b < 96 ∧ so (b / 8) = 1 ∧ c = 1 ∧ ∀ n, qt_an pl n (b / 8) ≠ a))
/-- ranks: the tree -/
def qt_tr (so pl r : Nat → Nat) : Prop := ∀ i, 1 ≤ i → i < 12 → so i ≠ 0 → r (qt_pa pl i) < r i
def qt_iv (t : qt_T) : Prop :=
  match t with
  | (so, pl, cl, cw, rl, ro, sp) =>
    so 0 = 1 ∧ pl 0 = 0 ∧ (∀ i, i < 12 → so i ≤ 3) ∧ (∀ i, i < 12 → rl i ≤ 3) ∧ (∀ i k, i < 12 → k < rl i → ro (3 * i + k) < 16)
      ∧ (∀ i, 1 ≤ i → i < 12 → so i ≠ 0 → 1 ≤ pl i ∧ pl i ≤ 96 ∧ so (qt_pa pl i) = 1)
      ∧ (∃ r, qt_tr so pl r) ∧ (∀ b, b < 16 → sp b < 2097152) ∧ (∀ i, i < 12 → cl i ≤ 4) ∧ (∀ i, i < 12 → cw i ≤ 8)
theorem qt_iv0 : qt_iv qt_t0 := by
  refine ⟨rfl, rfl, ?_, ?_, ?_, ?_, ⟨fun _ => 0, ?_⟩, ?_, ?_, ?_⟩
  · intro i _
    by_cases h : i = 0
    · subst h; decide
    · rw [qt_un h]; omega
  · intro i _; exact Nat.zero_le _
  · intro i k _ h; exact absurd h (Nat.not_lt_zero _)
  · intro i h1 _ h; exact absurd (qt_un (by omega)) h
  · intro i h1 _ h; exact absurd (qt_un (by omega)) h
  · intro b _; show 0 < 2097152; decide
  · intro b _; exact Nat.zero_le _
  · intro b _; exact Nat.zero_le _
theorem qt_paU {pl : Nat → Nat} {a x i : Nat} (h : i ≠ a) : qt_pa (qt_u pl a x) i = qt_pa pl i := by
  unfold qt_pa; rw [qt_un h]
theorem qt_paS {pl : Nat → Nat} {a b : Nat} : qt_pa (qt_u pl a (b + 1)) a = b / 8 := by
  unfold qt_pa; rw [qt_us]; rfl
theorem qt_ivMake {so pl cl cw rl ro sp : Nat → Nat} {e a b c k : Nat} (I : qt_iv (so, pl, cl, cw, rl, ro, sp)) (h1 : 1 ≤ a) (h2 : a < 12) (h3 : so a = 0) (h4 : b < 96) (h5 : so (b / 8) = 1) (h6 : c ≤ 4) :
    qt_iv (qt_ap (so, pl, cl, cw, rl, ro, sp) (e, 0, a, b, c) k) := by
  obtain ⟨i1, i2, i3, i4, i5, i6, ⟨r, i7⟩, i8, i9, i10⟩ := I
  have hv : (if c = 0 then 1 else 2) ≤ 3 ∧ (if c = 0 then 1 else 2) ≠ 0 := by split <;> omega
  refine ⟨?_, ?_, ?_, ?_, ?_, ?_, ⟨qt_u r a (r (b / 8) + 1), ?_⟩, i8, ?_, ?_⟩
  · exact (qt_un (by omega)).trans i1
  · exact (qt_un (by omega)).trans i2
  · intro i hi
    by_cases h : i = a
    · subst h; rw [qt_us]; exact hv.1
    · rw [qt_un h]; exact i3 i hi
  · intro i hi
    by_cases h : i = a
    · subst h; rw [qt_us]; omega
    · rw [qt_un h]; exact i4 i hi
  · intro i k hi hk
    by_cases h : i = a
    · subst h; rw [qt_us] at hk; omega
    · rw [qt_un h] at hk; exact i5 i k hi hk
  · intro i g1 g2 g3
    by_cases h : i = a
    · subst h
      refine ⟨by rw [qt_us]; omega, by rw [qt_us]; omega, ?_⟩
      rw [qt_paS, qt_un (by intro z; rw [z] at h5; omega)]; exact h5
    · rw [qt_un h] at g3
      obtain ⟨p1, p2, p3⟩ := i6 i g1 g2 g3
      refine ⟨by rw [qt_un h]; exact p1, by rw [qt_un h]; exact p2, ?_⟩
      rw [qt_paU h, qt_un (by intro z; rw [z] at p3; omega)]; exact p3
  · intro i g1 g2 g3
    by_cases h : i = a
    · subst h
      rw [qt_paS, qt_us, qt_un (by intro z; rw [z] at h5; omega)]; omega
    · rw [qt_un h] at g3
      obtain ⟨p1, p2, p3⟩ := i6 i g1 g2 g3
      rw [qt_paU h, qt_un h, qt_un (by intro z; rw [z] at p3; omega)]; exact i7 i g1 g2 g3
  · intro i hi
    by_cases h : i = a
    · subst h; rw [qt_us]; exact h6
    · rw [qt_un h]; exact i9 i hi
  · intro i hi
    by_cases h : i = a
    · subst h; rw [qt_us]; omega
    · rw [qt_un h]; exact i10 i hi
theorem qt_ivBlock {so pl cl cw rl ro sp : Nat → Nat} {e a b c k : Nat} (I : qt_iv (so, pl, cl, cw, rl, ro, sp)) (he : e ≤ 512) (hk : k < 1000) (h2 : a < 12) (h3 : rl a < 3) (h4 : b < 16) :
    qt_iv (qt_ap (so, pl, cl, cw, rl, ro, sp) (e, 1, a, b, c) k) := by
  obtain ⟨i1, i2, i3, i4, i5, i6, i7, i8, i9, i10⟩ := I
  refine ⟨i1, i2, i3, ?_, ?_, i6, i7, ?_, i9, i10⟩
  · intro i hi
    by_cases h : i = a
    · subst h; rw [qt_us]; omega
    · rw [qt_un h]; exact i4 i hi
  · intro i k hi hk
    by_cases h : i = a
    · subst h
      rw [qt_us] at hk
      by_cases h' : k = rl i
      · subst h'; rw [qt_us]; exact h4
      · rw [qt_un (by omega)]; exact i5 i k hi (by omega)
    · rw [qt_un h] at hk
      have := i4 i hi
      rw [qt_un (by omega)]; exact i5 i k hi hk
  · intro x hx
    by_cases h : x = b
    · subst h; rw [qt_us]; omega
    · rw [qt_un h]; exact i8 x hx
theorem qt_ivStamp {so pl cl cw rl ro sp : Nat → Nat} {e a b c k : Nat} (I : qt_iv (so, pl, cl, cw, rl, ro, sp)) (he : e ≤ 512) (hk : k < 1000) :
    qt_iv (qt_ap (so, pl, cl, cw, rl, ro, sp) (e, 2, a, b, c) k) := by
  obtain ⟨i1, i2, i3, i4, i5, i6, i7, i8, i9, i10⟩ := I
  refine ⟨i1, i2, i3, i4, i5, i6, i7, ?_, i9, i10⟩
  intro x hx
  by_cases h : x = a
  · subst h; rw [qt_us]; omega
  · rw [qt_un h]; exact i8 x hx
theorem qt_rlC {rl : Nat → Nat} {a b i : Nat} : (if b = 0 then qt_u rl a (rl a - 1) else rl) i ≤ rl i := by
  split
  · by_cases h : i = a
    · subst h; rw [qt_us]; omega
    · rw [qt_un h]; omega
  · exact Nat.le_refl _
theorem qt_ivClose {so pl cl cw rl ro sp : Nat → Nat} {e a b c k : Nat} (I : qt_iv (so, pl, cl, cw, rl, ro, sp)) (h2 : a < 12) (h3 : so a = 2) (h4 : b ≤ 8) :
    qt_iv (qt_ap (so, pl, cl, cw, rl, ro, sp) (e, 3, a, b, c) k) := by
  obtain ⟨i1, i2, i3, i4, i5, i6, ⟨r, i7⟩, i8, i9, i10⟩ := I
  have ha : a ≠ 0 := by intro z; rw [z] at h3; omega
  have hs : ∀ i, qt_u so a 3 i ≠ 0 → so i ≠ 0 := by
    intro i hi
    by_cases h : i = a
    · rw [h, h3]; decide
    · rw [qt_un h] at hi; exact hi
  refine ⟨(qt_un (by omega)).trans i1, i2, ?_, ?_, ?_, ?_, ⟨r, ?_⟩, i8, i9, ?_⟩
  · intro i hi
    by_cases h : i = a
    · subst h; rw [qt_us]; omega
    · rw [qt_un h]; exact i3 i hi
  · intro i hi
    exact Nat.le_trans qt_rlC (i4 i hi)
  · intro i k hi hk
    exact i5 i k hi (Nat.lt_of_lt_of_le hk qt_rlC)
  · intro i g1 g2 g3
    obtain ⟨p1, p2, p3⟩ := i6 i g1 g2 (hs i g3)
    refine ⟨p1, p2, ?_⟩
    rw [qt_un (by intro z; rw [z] at p3; omega)]; exact p3
  · intro i g1 g2 g3
    exact i7 i g1 g2 (hs i g3)
  · intro i hi
    by_cases h : i = a
    · subst h; rw [qt_us]; exact h4
    · rw [qt_un h]; exact i10 i hi
theorem qt_ivRemove {so pl cl cw rl ro sp : Nat → Nat} {e a b c k : Nat} (I : qt_iv (so, pl, cl, cw, rl, ro, sp)) (h1 : 1 ≤ a) (h2 : a < 12) (h3 : so a = 3 ∨ (so a = 1 ∧ ∀ x, 1 ≤ x → x < 12 → so x ≠ 0 → qt_pa pl x ≠ a)) :
    qt_iv (qt_ap (so, pl, cl, cw, rl, ro, sp) (e, 4, a, b, c) k) := by
  obtain ⟨i1, i2, i3, i4, i5, i6, ⟨r, i7⟩, i8, i9, i10⟩ := I
  have hs : ∀ i, qt_u so a 0 i ≠ 0 → so i ≠ 0 := by
    intro i hi
    by_cases h : i = a
    · rw [h, qt_us] at hi; omega
    · rw [qt_un h] at hi; exact hi
  refine ⟨(qt_un (by omega)).trans i1, i2, ?_, ?_, ?_, ?_, ⟨r, ?_⟩, i8, i9, i10⟩
  · intro i hi
    by_cases h : i = a
    · subst h; rw [qt_us]; omega
    · rw [qt_un h]; exact i3 i hi
  · intro i hi
    by_cases h : i = a
    · subst h; rw [qt_us]; omega
    · rw [qt_un h]; exact i4 i hi
  · intro i k hi hk
    by_cases h : i = a
    · subst h; rw [qt_us] at hk; omega
    · rw [qt_un h] at hk; exact i5 i k hi hk
  · intro i g1 g2 g3
    obtain ⟨p1, p2, p3⟩ := i6 i g1 g2 (hs i g3)
    refine ⟨p1, p2, ?_⟩
    rw [qt_un ?_]
    · exact p3
    · intro z
      rcases h3 with h3 | ⟨_, h3⟩
      · rw [z, h3] at p3; omega
      · exact h3 i g1 g2 (hs i g3) z
  · intro i g1 g2 g3
    exact i7 i g1 g2 (hs i g3)
theorem qt_anS (pl : Nat → Nat) (n x : Nat) : qt_an pl (n + 1) x = qt_an pl n (qt_pa pl x) := rfl
theorem qt_ivMove {so pl cl cw rl ro sp : Nat → Nat} {e a b c k : Nat} (I : qt_iv (so, pl, cl, cw, rl, ro, sp)) (h1 : 1 ≤ a) (h2 : a < 12) (h4 : b < 96) (h5 : so (b / 8) = 1) (h6 : ∀ n, qt_an pl n (b / 8) ≠ a) :
    qt_iv (qt_ap (so, pl, cl, cw, rl, ro, sp) (e, 5, a, b, c) k) := by
  obtain ⟨i1, i2, i3, i4, i5, i6, ⟨r, i7⟩, i8, i9, i10⟩ := I
  classical
  refine ⟨i1, (qt_un (by omega)).trans i2, i3, i4, i5, ?_, ⟨fun x => if ∃ n, qt_an pl n x = a then r x + (r (b / 8) + 1) else r x, ?_⟩, i8, i9, i10⟩
  · intro i g1 g2 g3
    by_cases h : i = a
    · subst h
      refine ⟨by rw [qt_us]; omega, by rw [qt_us]; omega, ?_⟩
      rw [qt_paS]; exact h5
    · rw [qt_un h, qt_paU h]; exact i6 i g1 g2 g3
  · intro i g1 g2 g3
    show (if ∃ n, qt_an pl n (qt_pa (qt_u pl a (b + 1)) i) = a then _ else _) < (if ∃ n, qt_an pl n i = a then _ else _)
    by_cases h : i = a
    · subst h
      rw [qt_paS, if_neg (fun z => h6 _ z.choose_spec), if_pos ⟨0, rfl⟩]; omega
    · rw [qt_paU h]
      have hr := i7 i g1 g2 g3
      by_cases hb : ∃ n, qt_an pl n (qt_pa pl i) = a
      · obtain ⟨n, hn⟩ := hb
        rw [if_pos ⟨n, hn⟩, if_pos ⟨n + 1, hn⟩]; omega
      · rw [if_neg hb, if_neg]
        · exact hr
        · rintro ⟨n, hn⟩
          cases n with
          | zero => exact h hn
          | succ n => exact hb ⟨n, hn⟩
theorem qt_ivAp {t : qt_T} {r : qt_R} {k : Nat} (I : qt_iv t) (h : qt_ok t r) (hk : k < 1000) : qt_iv (qt_ap t r k) := by
  obtain ⟨so, pl, cl, cw, rl, ro, sp⟩ := t
  obtain ⟨e, q, a, b, c⟩ := r
  obtain ⟨he, h⟩ := h
  rcases h with ⟨rfl, h1, h2, h3, h4, h5, h6⟩ | ⟨rfl, h1, h2, h3, h4, h5⟩ | ⟨rfl, h1, h2⟩ | ⟨rfl, h1, h2, h3, h4⟩ | ⟨rfl, h1, h2, h3, h4, h5⟩ | ⟨rfl, h1, h2, h3, h4, h5, h6, h7⟩
  · exact qt_ivMake I h1 h2 h3 h4 h5 h6
  · exact qt_ivBlock I he hk h1 h3 h4
  · exact qt_ivStamp I he hk
  · exact qt_ivClose I h1 h2 h3
  · exact qt_ivRemove I h1 h2 h5
  · exact qt_ivMove I h1 h2 h4 h5 h7
/-- all records of a log were tested -/
def qt_wf (lg : Nat → qt_R) (n : Nat) : Prop := ∀ k, k < n → qt_ok (qt_ab lg k) (lg k)
theorem qt_ivAb {lg : Nat → qt_R} : ∀ {n : Nat}, qt_wf lg n → n ≤ 1000 → qt_iv (qt_ab lg n) := by
  intro n
  induction n with
  | zero => intro _ _; exact qt_iv0
  | succ n ih =>
    intro h hn
    exact qt_ivAp (ih (fun k hk => h k (by omega)) (by omega)) (h n (by omega)) (by omega)
theorem qt_abC {lg lg' : Nat → qt_R} : ∀ {n : Nat}, (∀ k, k < n → lg k = lg' k) → qt_ab lg n = qt_ab lg' n := by
  intro n
  induction n with
  | zero => intro _; rfl
  | succ n ih =>
    intro h
    show qt_ap (qt_ab lg n) (lg n) n = qt_ap (qt_ab lg' n) (lg' n) n
    rw [ih (fun k hk => h k (by omega)), h n (by omega)]
theorem qt_wfC {lg lg' : Nat → qt_R} {n : Nat} (h : ∀ k, k < n → lg k = lg' k) (w : qt_wf lg n) : qt_wf lg' n := by
  intro k hk
  rw [← h k hk, ← qt_abC (fun j hj => h j (by omega))]
  exact w k hk
def qt_uR (f : Nat → qt_R) (k : Nat) (x : qt_R) : Nat → qt_R := fun j => if j = k then x else f j
theorem qt_uRs {f : Nat → qt_R} {k : Nat} {x : qt_R} : qt_uR f k x k = x := if_pos rfl
theorem qt_uRn {f : Nat → qt_R} {k j : Nat} {x : qt_R} (h : j ≠ k) : qt_uR f k x j = f j := if_neg h
theorem qt_abU {lg : Nat → qt_R} {n : Nat} {r : qt_R} : qt_ab (qt_uR lg n r) (n + 1) = qt_ap (qt_ab lg n) r n := by
  show qt_ap (qt_ab (qt_uR lg n r) n) (qt_uR lg n r n) n = _
  rw [qt_uRs, qt_abC (lg' := lg) (fun k hk => qt_uRn (by omega))]
theorem qt_wfU {lg : Nat → qt_R} {n : Nat} {r : qt_R} (w : qt_wf lg n) (h : qt_ok (qt_ab lg n) r) : qt_wf (qt_uR lg n r) (n + 1) := by
  intro k hk
  by_cases e : k = n
  · subst e
    rw [qt_uRs, qt_abC (lg' := lg) (fun j hj => qt_uRn (by omega))]; exact h
  · rw [qt_uRn e, qt_abC (lg' := lg) (fun j hj => qt_uRn (by omega))]; exact w k (by omega)
/-! ranks below 12 -/
def qt_ct (r : Nat → Nat) (x : Nat) : Nat → Nat
  | 0 => 0
  | n + 1 => qt_ct r x n + (if r n < x then 1 else 0)
theorem qt_ct_m (r : Nat → Nat) {x y : Nat} (h : x ≤ y) : ∀ n, qt_ct r x n ≤ qt_ct r y n := by
  intro n
  induction n with
  | zero => exact Nat.le_refl _
  | succ n ih =>
    show qt_ct r x n + _ ≤ qt_ct r y n + _
    split <;> split <;> omega
theorem qt_ct_l (r : Nat → Nat) {x y j : Nat} (h : x ≤ y) (h1 : ¬ r j < x) (h2 : r j < y) : ∀ n, j < n → qt_ct r x n < qt_ct r y n := by
  intro n
  induction n with
  | zero => intro h; omega
  | succ n ih =>
    intro hj
    have hm := qt_ct_m r h n
    show qt_ct r x n + _ < qt_ct r y n + _
    by_cases e : j = n
    · subst e; rw [if_neg h1, if_pos h2]; omega
    · have := ih (by omega)
      split <;> split <;> omega
theorem qt_ct_b (r : Nat → Nat) (x : Nat) : ∀ n, qt_ct r x n ≤ n := by
  intro n
  induction n with
  | zero => exact Nat.le_refl _
  | succ n ih =>
    show qt_ct r x n + _ ≤ n + 1
    split <;> omega
theorem qt_ct_s (r : Nat → Nat) {x j : Nat} (h1 : ¬ r j < x) : ∀ n, j < n → qt_ct r x n < n := by
  intro n
  induction n with
  | zero => intro h; omega
  | succ n ih =>
    intro hj
    have hb := qt_ct_b r x n
    show qt_ct r x n + _ < n + 1
    by_cases e : j = n
    · subst e; rw [if_neg h1]; omega
    · have := ih (by omega)
      split <;> omega
theorem qt_rank {so pl cl cw rl ro sp : Nat → Nat} (I : qt_iv (so, pl, cl, cw, rl, ro, sp)) : ∃ r, qt_tr so pl r ∧ ∀ i, i < 12 → r i < 12 := by
  obtain ⟨_, _, _, _, _, i6, ⟨r, i7⟩, _⟩ := I
  refine ⟨fun i => qt_ct r (r i) 12, ?_, ?_⟩
  · intro i g1 g2 g3
    have h := i7 i g1 g2 g3
    obtain ⟨p1, p2, _⟩ := i6 i g1 g2 g3
    have hp : qt_pa pl i < 12 := by unfold qt_pa; omega
    exact qt_ct_l r (j := qt_pa pl i) (by omega) (by omega) h 12 hp
  · intro i hi
    exact qt_ct_s r (j := i) (by omega) 12 hi
