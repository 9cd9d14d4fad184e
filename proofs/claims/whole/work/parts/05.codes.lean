/-! a record as one long; numbers that may be out of range; booleans -/
def qt_pk (r : qt_R) : Nat := r.1 * 1048576 + r.2.2.2.2 * 65536 + r.2.2.2.1 * 256 + r.2.2.1 * 8 + r.2.1
def qt_rb (r : qt_R) : Prop := r.1 ≤ 512 ∧ r.2.1 < 6 ∧ r.2.2.1 < 16 ∧ r.2.2.2.1 < 96 ∧ r.2.2.2.2 ≤ 4
theorem qt_okB {t : qt_T} {r : qt_R} (h : qt_ok t r) : qt_rb r := by
  obtain ⟨so, pl, cl, cw, rl, ro, sp⟩ := t
  obtain ⟨e, q, a, b, c⟩ := r
  obtain ⟨he, h⟩ := h
  show e ≤ 512 ∧ q < 6 ∧ a < 16 ∧ b < 96 ∧ c ≤ 4
  rcases h with ⟨rfl, h1, h2, h3, h4, h5, h6⟩ | ⟨rfl, h1, h2, h3, h4, h5⟩ | ⟨rfl, h1, h2, h3⟩ | ⟨rfl, h1, h2, h3, h4⟩ | ⟨rfl, h1, h2, h3, h4, h5⟩ | ⟨rfl, h1, h2, h3, h4, h5, h6, h7⟩
  · omega
  · omega
  · omega
  · omega
  · omega
  · omega
theorem qt_pkL {r : qt_R} (h : qt_rb r) : qt_pk r < 1073741824 := by
  obtain ⟨e, q, a, b, c⟩ := r
  obtain ⟨h1, h2, h3, h4, h5⟩ := h
  dsimp only at h1 h2 h3 h4 h5
  show e * 1048576 + c * 65536 + b * 256 + a * 8 + q < 1073741824
  omega
theorem qt_pkD {r : qt_R} (h : qt_rb r) : qt_pk r % 8 = r.2.1 ∧ qt_pk r / 8 % 32 = r.2.2.1 ∧ qt_pk r / 256 % 256 = r.2.2.2.1 ∧ qt_pk r / 65536 % 16 = r.2.2.2.2 ∧ qt_pk r / 1048576 = r.1 := by
  obtain ⟨e, q, a, b, c⟩ := r
  obtain ⟨h1, h2, h3, h4, h5⟩ := h
  dsimp only at h1 h2 h3 h4 h5
  show (e * 1048576 + c * 65536 + b * 256 + a * 8 + q) % 8 = q ∧ (e * 1048576 + c * 65536 + b * 256 + a * 8 + q) / 8 % 32 = a ∧ (e * 1048576 + c * 65536 + b * 256 + a * 8 + q) / 256 % 256 = b ∧ (e * 1048576 + c * 65536 + b * 256 + a * 8 + q) / 65536 % 16 = c ∧ (e * 1048576 + c * 65536 + b * 256 + a * 8 + q) / 1048576 = e
  omega
theorem qt_or {k a b : Nat} (hb : b < 2 ^ k) (h : a * 2 ^ k + b < 2 ^ 63) : lN (a * 2 ^ k) ||| lN b = lN (a * 2 ^ k + b) := by
  rw [wb_or (by omega) (by omega), Nat.mul_comm a, Nat.two_pow_add_eq_or_of_lt hb]
def bo_p (x : Bool) : Int32 := if x then 1 else 0
def bo_n (x : Bool) : Int32 := if x then 0 else 1
theorem bo_pt : bo_p true = 1 := rfl
theorem bo_pf : bo_p false = 0 := rfl
theorem bo_nt : bo_n true = 0 := rfl
theorem bo_nf : bo_n false = 1 := rfl
theorem bo_p0 {x : Bool} : bo_p x = 0 ↔ x = false := by cases x <;> decide
theorem bo_p1 {x : Bool} : bo_p x = 1 ↔ x = true := by cases x <;> decide
theorem bo_n0 {x : Bool} : bo_n x = 0 ↔ x = true := by cases x <;> decide
theorem bo_n1 {x : Bool} : bo_n x = 1 ↔ x = false := by cases x <;> decide
theorem bo_z (z : Int32) : ∃ x : Bool, lw_bz z = bo_p x := by
  rcases lw_bz_01 z with h | h
  · exact ⟨false, h⟩
  · exact ⟨true, h⟩
theorem bo_v0 : vp_nar .boolean 0 = 0 := rfl
theorem bo_v1 : vp_nar .boolean 1 = 1 := rfl
theorem bo_vp (x : Bool) : vp_nar .boolean (bo_p x) = bo_p x := by cases x <;> rfl
theorem bo_vn (x : Bool) : vp_nar .boolean (bo_n x) = bo_n x := by cases x <;> rfl
/-- an int against a range: its number, or the range's end if it is out of it -/
def ix_c (x : Int32) (N n : Nat) : Prop := (n < N ∧ x = nI n) ∨ (n = N ∧ (x < 0 ∨ (nI N ≤ x ∧ ¬ x < 0)))
theorem ix_e (x : Int32) {N : Nat} (hN : N < 2 ^ 31) : ∃ n, ix_c x N n := by
  by_cases h : x < 0
  · exact ⟨N, Or.inr ⟨rfl, Or.inl h⟩⟩
  · rcases pk_ix x hN with h' | h' | ⟨j, hj, e⟩
    · exact absurd h' h
    · exact ⟨N, Or.inr ⟨rfl, Or.inr ⟨h', h⟩⟩⟩
    · exact ⟨j, Or.inl ⟨hj, e⟩⟩
theorem ix_i {x : Int32} {N n : Nat} (h : ix_c x N n) (hn : n < N) : x = nI n := by
  rcases h with h | h
  · exact h.2
  · omega
/-- the usual test of a range -/
theorem ix_t {x y : Int32} {N n : Nat} {A B : Prop} (h : ix_c x N n) (hy : y = nI N) (hN : N < 2 ^ 31) (a : n < N → x = nI n → A) (b : n = N → B) : (x < 0 → B) ∧ (¬ x < 0 → (y ≤ x → B) ∧ (¬ y ≤ x → A)) := by
  subst hy
  rcases h with ⟨h1, rfl⟩ | ⟨rfl, h | ⟨h, h'⟩⟩
  · refine ⟨fun z => absurd z (nI_pos (by omega)), fun _ => ⟨fun z => absurd z (nI_ge h1 hN), fun _ => a h1 rfl⟩⟩
  · exact ⟨fun _ => b rfl, fun z => absurd h z⟩
  · exact ⟨fun z => absurd z h', fun _ => ⟨fun _ => b rfl, fun z => absurd h z⟩⟩
theorem ix_m1 {n : Nat} (h : n < 2 ^ 31) : ¬ nI n = -1 := by
  intro z
  have := nI_pos (n := n) h
  rw [z] at this
  exact this (by decide)
theorem qt_mT {n : Nat} (h : n < 2 ^ 31) : (qt_m n).toInt = (n : Int) - 1 := by
  cases n with
  | zero => rw [qt_m0]; decide
  | succ n => rw [qt_ms, nI_toInt (by omega)]; omega
theorem qt_mE {a b : Nat} (ha : a < 2 ^ 31) (hb : b < 2 ^ 31) : qt_m a = qt_m b ↔ a = b := by
  rw [← Int32.toInt_inj, qt_mT ha, qt_mT hb]; omega
theorem qt_mL {a b : Nat} (ha : a < 2 ^ 31) (hb : b < 2 ^ 31) : qt_m a < qt_m b ↔ a < b := by
  rw [Int32.lt_iff_toInt_lt, qt_mT ha, qt_mT hb]; omega
theorem qt_m0E {a : Nat} (ha : a < 2 ^ 31) : qt_m a = -1 ↔ a = 0 := by
  rw [← qt_m0, qt_mE ha (by decide)]
theorem qt_mZ {a : Nat} (ha : a < 2 ^ 31) : qt_m a < 0 ↔ a = 0 := by
  rw [Int32.lt_iff_toInt_lt, qt_mT ha, show (0 : Int32).toInt = 0 from rfl]; omega
theorem qt_mN {a s : Nat} (ha : a < 2 ^ 31) (hs : s < 2 ^ 31) : qt_m a < nI s ↔ a ≤ s := by
  rw [Int32.lt_iff_toInt_lt, qt_mT ha, nI_toInt hs]; omega
theorem qt_Nm {a s : Nat} (ha : a < 2 ^ 31) (hs : s < 2 ^ 31) : nI s ≤ qt_m a ↔ s < a := by
  rw [Int32.le_iff_toInt_le, qt_mT ha, nI_toInt hs]; omega
theorem qt_mle {a b : Nat} (ha : a < 2 ^ 31) (hb : b < 2 ^ 31) : qt_m a ≤ qt_m b ↔ a ≤ b := by
  rw [Int32.le_iff_toInt_le, qt_mT ha, qt_mT hb]; omega
theorem qt_mEn {a s : Nat} (ha : a < 2 ^ 31) (hs : s < 2 ^ 31) : qt_m a = nI s ↔ a = s + 1 := by
  rw [← Int32.toInt_inj, qt_mT ha, nI_toInt hs]; omega
/-! loops that search, loops that gather -/
theorem lq_s (W : Nat → Nat → Prop) (N M : Nat) (hM : M ≤ N) (stop : ∀ n, M = N → W (n + 1) N) (hit : ∀ n, M < N → W (n + 1) M) (step : ∀ n d, d < M → W n (d + 1) → W (n + 1) d) :
    ∀ n d, d ≤ M → N - d < n → W n d := by
  intro n
  induction n with
  | zero => intro d _ h; omega
  | succ n ih =>
    intro d hd hn
    by_cases h : d < M
    · exact step n d h (ih (d + 1) (by omega) (by omega))
    · have e : d = M := by omega
      subst e
      by_cases h' : d < N
      · exact hit n h'
      · have e : d = N := by omega
        subst e
        exact stop n rfl
theorem lq_f {σ : Type} (W : Nat → Nat → σ → Prop) (N : Nat) (v : Nat → σ) (fin : ∀ n, W (n + 1) N (v N)) (step : ∀ n d, d < N → W n (d + 1) (v (d + 1)) → W (n + 1) d (v d)) :
    ∀ n d, d ≤ N → N - d < n → W n d (v d) := by
  intro n
  induction n with
  | zero => intro d _ h; omega
  | succ n ih =>
    intro d hd hn
    by_cases h : d < N
    · exact step n d h (ih (d + 1) (by omega) (by omega))
    · have e : d = N := by omega
      subst e
      exact fin n
theorem lq_g {σ : Type} (W : Nat → Nat → σ → Prop) (i0 N : Nat) (v : Nat → σ) (fin : ∀ n, W (n + 1) N (v N)) (step : ∀ n d, i0 ≤ d → d < N → W n (d + 1) (v (d + 1)) → W (n + 1) d (v d)) :
    ∀ n d, i0 ≤ d → d ≤ N → N - d < n → W n d (v d) := by
  intro n
  induction n with
  | zero => intro d _ _ h; omega
  | succ n ih =>
    intro d h0 hd hn
    by_cases h : d < N
    · exact step n d h0 h (ih (d + 1) (by omega) (by omega) (by omega))
    · have e : d = N := by omega
      subst e
      exact fin n
theorem bo_ex (P : Nat → Prop) : ∃ f : Nat → Bool, ∀ b, f b = true ↔ P b := by
  classical
  exact ⟨fun b => decide (P b), fun b => decide_eq_true_iff⟩
