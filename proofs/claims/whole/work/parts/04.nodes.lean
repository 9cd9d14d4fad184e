/-! searches, masks, data nodes: pure -/
def ls_f (p : Nat → Prop) (N m : Nat) : Prop := m ≤ N ∧ (∀ i, i < m → ¬ p i) ∧ (m < N → p m)
theorem ls_ex (p : Nat → Prop) : ∀ N, ∃ m, ls_f p N m := by
  intro N
  induction N with
  | zero => exact ⟨0, Nat.le_refl _, fun i hi => by omega, fun h => by omega⟩
  | succ N ih =>
    obtain ⟨m, h1, h2, h3⟩ := ih
    by_cases hm : m < N
    · exact ⟨m, by omega, h2, fun _ => h3 hm⟩
    · have e : m = N := by omega
      subst e
      by_cases hp : p m
      · exact ⟨m, by omega, h2, fun _ => hp⟩
      · refine ⟨m + 1, by omega, ?_, fun h => by omega⟩
        intro i hi
        by_cases hi' : i = m
        · subst hi'; exact hp
        · exact h2 i (by omega)
theorem ls_c {p q : Nat → Prop} {N m : Nat} (h : ∀ i, i < N → (p i ↔ q i)) (hm : ls_f p N m) : ls_f q N m := by
  obtain ⟨h1, h2, h3⟩ := hm
  exact ⟨h1, fun i hi z => h2 i hi ((h i (by omega)).mpr z), fun hi => (h m hi).mp (h3 hi)⟩
theorem ls_some {p : Nat → Prop} {N m i : Nat} (hm : ls_f p N m) (hi : i < N) (hp : p i) : m < N := by
  obtain ⟨h1, h2, h3⟩ := hm
  by_cases h : i < m
  · exact absurd hp (h2 i h)
  · omega
theorem ls_none {p : Nat → Prop} {N m : Nat} (hm : ls_f p N m) (h : ∀ i, i < N → ¬ p i) : m = N := by
  obtain ⟨h1, h2, h3⟩ := hm
  by_cases hl : m < N
  · exact absurd (h3 hl) (h m hl)
  · omega
def ls_v (N m : Nat) : Int32 := if m < N then nI m else -1
/-! masks of five -/
def rd_mk (f : Nat → Bool) : Nat → Nat
  | 0 => 0
  | n + 1 => rd_mk f n + (if f n then 2 ^ n else 0)
def rd_m5 (a b c d e : Bool) : Nat := 0 + (if a then 2 ^ 0 else 0) + (if b then 2 ^ 1 else 0) + (if c then 2 ^ 2 else 0) + (if d then 2 ^ 3 else 0) + (if e then 2 ^ 4 else 0)
theorem rd_mk5 (f : Nat → Bool) : rd_mk f 5 = rd_m5 (f 0) (f 1) (f 2) (f 3) (f 4) := rfl
theorem rd_mkC {f g : Nat → Bool} : ∀ {n : Nat}, (∀ d, d < n → f d = g d) → rd_mk f n = rd_mk g n := by
  intro n
  induction n with
  | zero => intro _; rfl
  | succ n ih =>
    intro h
    show rd_mk f n + _ = rd_mk g n + _
    rw [ih (fun d hd => h d (by omega)), h n (by omega)]
theorem rd_mkL (f : Nat → Bool) : ∀ n, rd_mk f n < 2 ^ n := by
  intro n
  induction n with
  | zero => exact Nat.zero_lt_one
  | succ n ih =>
    show rd_mk f n + _ < 2 ^ (n + 1)
    rw [Nat.pow_succ]
    split <;> omega
theorem rd_mk0 : rd_mk (fun _ => false) 5 = 0 := by decide
theorem rd_mk1 : rd_mk (fun _ => true) 5 = 31 := by decide
theorem rd_bv5 : ∀ a b c d e : Bool, (nI (rd_m5 a b c d e) >>> (nI 0 &&& 31) &&& 1 = (if a then 1 else 0)) ∧ (nI (rd_m5 a b c d e) >>> (nI 1 &&& 31) &&& 1 = (if b then 1 else 0)) ∧ (nI (rd_m5 a b c d e) >>> (nI 2 &&& 31) &&& 1 = (if c then 1 else 0)) ∧ (nI (rd_m5 a b c d e) >>> (nI 3 &&& 31) &&& 1 = (if d then 1 else 0)) ∧ (nI (rd_m5 a b c d e) >>> (nI 4 &&& 31) &&& 1 = (if e then 1 else 0)) := by decide +kernel
theorem rd_5 {P : Nat → Prop} (h0 : P 0) (h1 : P 1) (h2 : P 2) (h3 : P 3) (h4 : P 4) : ∀ d, d < 5 → P d := by
  intro d hd
  match d, hd with
  | 0, _ => exact h0
  | 1, _ => exact h1
  | 2, _ => exact h2
  | 3, _ => exact h3
  | 4, _ => exact h4
theorem rd_bv (f : Nat → Bool) : ∀ d, d < 5 → nI (rd_mk f 5) >>> (nI d &&& 31) &&& 1 = (if f d then 1 else 0) := by
  rw [rd_mk5]
  have h := rd_bv5 (f 0) (f 1) (f 2) (f 3) (f 4)
  exact rd_5 h.1 h.2.1 h.2.2.1 h.2.2.2.1 h.2.2.2.2
theorem rd_b1 (f : Nat → Bool) {d : Nat} (hd : d < 5) : nI (rd_mk f 5) >>> (nI d &&& 31) &&& 1 = 1 ↔ f d = true := by
  rw [rd_bv f d hd]
  cases f d <;> decide
theorem rd_b0 (f : Nat → Bool) {d : Nat} (hd : d < 5) : nI (rd_mk f 5) >>> (nI d &&& 31) &&& 1 = 0 ↔ f d = false := by
  rw [rd_bv f d hd]
  cases f d <;> decide
theorem rd_orN : ∀ d, d < 5 → ∀ m, m < 32 → m < 2 ^ d → nI m ||| ((1 : Int32) <<< (nI d &&& 31)) = nI (m + 2 ^ d) := by decide +kernel
theorem rd_or5 : ∀ a b c d e : Bool, ∀ k, k < 5 → nI (rd_m5 a b c d e) ||| ((1 : Int32) <<< (nI k &&& 31)) = nI (rd_m5 (a || 0 == k) (b || 1 == k) (c || 2 == k) (d || 3 == k) (e || 4 == k)) := by decide +kernel
theorem rd_or (f : Nat → Bool) {d : Nat} (hd : d < 5) : nI (rd_mk f 5) ||| ((1 : Int32) <<< (nI d &&& 31)) = nI (rd_mk (fun x => f x || x == d) 5) := by
  rw [rd_mk5, rd_mk5]; exact rd_or5 _ _ _ _ _ d hd
theorem rd_an5 : ∀ a b c d e : Bool, ∀ k, k < 5 → nI (rd_m5 a b c d e) &&& (((1 : Int32) <<< (nI k &&& 31)) ^^^ (-1)) = nI (rd_m5 (a && !(0 == k)) (b && !(1 == k)) (c && !(2 == k)) (d && !(3 == k)) (e && !(4 == k))) := by decide +kernel
theorem rd_an (f : Nat → Bool) {d : Nat} (hd : d < 5) : nI (rd_mk f 5) &&& (((1 : Int32) <<< (nI d &&& 31)) ^^^ (-1)) = nI (rd_mk (fun x => f x && !(x == d)) 5) := by
  rw [rd_mk5, rd_mk5]; exact rd_an5 _ _ _ _ _ d hd
theorem rd_co5 : ∀ a b c d e : Bool, 31 &&& (nI (rd_m5 a b c d e) ^^^ (-1)) = nI (rd_m5 (!a) (!b) (!c) (!d) (!e)) := by decide +kernel
theorem rd_co (f : Nat → Bool) : 31 &&& (nI (rd_mk f 5) ^^^ (-1)) = nI (rd_mk (fun x => !f x) 5) := by
  rw [rd_mk5, rd_mk5]; exact rd_co5 _ _ _ _ _
theorem rd_z5 : ∀ a b c d e : Bool, nI (rd_m5 a b c d e) = 0 ↔ (a = false ∧ b = false ∧ c = false ∧ d = false ∧ e = false) := by decide +kernel
theorem rd_z (f : Nat → Bool) : nI (rd_mk f 5) = 0 ↔ ∀ d, d < 5 → f d = false := by
  rw [rd_mk5, rd_z5]
  exact ⟨fun h => rd_5 h.1 h.2.1 h.2.2.1 h.2.2.2.1 h.2.2.2.2, fun h => ⟨h 0 (by decide), h 1 (by decide), h 2 (by decide), h 3 (by decide), h 4 (by decide)⟩⟩
/-- how many -/
def rd_cn (f : Nat → Bool) : Nat → Nat
  | 0 => 0
  | n + 1 => rd_cn f n + (if f n then 1 else 0)
theorem rd_cnL (f : Nat → Bool) : ∀ n, rd_cn f n ≤ n := by
  intro n
  induction n with
  | zero => exact Nat.le_refl _
  | succ n ih =>
    show rd_cn f n + _ ≤ n + 1
    split <;> omega
theorem rd_cnC {f g : Nat → Bool} : ∀ {n : Nat}, (∀ d, d < n → f d = g d) → rd_cn f n = rd_cn g n := by
  intro n
  induction n with
  | zero => intro _; rfl
  | succ n ih =>
    intro h
    show rd_cn f n + _ = rd_cn g n + _
    rw [ih (fun d hd => h d (by omega)), h n (by omega)]
theorem rd_cn0 {f : Nat → Bool} : ∀ {n : Nat}, rd_cn f n = 0 → ∀ d, d < n → f d = false := by
  intro n
  induction n with
  | zero => intro _ d hd; omega
  | succ n ih =>
    intro h d hd
    have h' : rd_cn f n + (if f n then 1 else 0) = 0 := h
    by_cases e : d = n
    · subst e
      cases hf : f d with
      | false => rfl
      | true => rw [hf] at h'; simp at h'
    · exact ih (by omega) d (by omega)
theorem rd_cnP {f : Nat → Bool} : ∀ {n : Nat}, 0 < rd_cn f n → ∃ d, d < n ∧ f d = true := by
  intro n
  induction n with
  | zero => intro h; exact absurd h (Nat.not_lt_zero _)
  | succ n ih =>
    intro h
    have h' : 0 < rd_cn f n + (if f n then 1 else 0) := h
    cases hf : f n with
    | true => exact ⟨n, by omega, hf⟩
    | false =>
      rw [hf] at h'
      obtain ⟨d, hd, e⟩ := ih (by simpa using h')
      exact ⟨d, by omega, e⟩
/-! the greatest stamp (and 1) of replicas on nodes that are up, good ones -/
def rd_gm (nu : Nat → Bool) (st : Nat → Nat) (b : Nat) : Nat → Nat
  | 0 => 0
  | n + 1 => if nu n = true ∧ rd_gm nu st b n < st (16 * n + b) then st (16 * n + b) else rd_gm nu st b n
theorem rd_gmU {nu : Nat → Bool} {st : Nat → Nat} {b : Nat} : ∀ {n d : Nat}, d < n → nu d = true → st (16 * d + b) ≤ rd_gm nu st b n := by
  intro n
  induction n with
  | zero => intro d h; omega
  | succ n ih =>
    intro d hd hu
    show _ ≤ if nu n = true ∧ rd_gm nu st b n < st (16 * n + b) then st (16 * n + b) else rd_gm nu st b n
    by_cases e : d = n
    · subst e
      split
      · exact Nat.le_refl _
      · rename_i h
        have : ¬ rd_gm nu st b d < st (16 * d + b) := fun z => h ⟨hu, z⟩
        omega
    · have := ih (d := d) (by omega) hu
      split <;> omega
theorem rd_gmA {nu : Nat → Bool} {st : Nat → Nat} {b : Nat} : ∀ {n : Nat}, 0 < rd_gm nu st b n → ∃ d, d < n ∧ nu d = true ∧ st (16 * d + b) = rd_gm nu st b n := by
  intro n
  induction n with
  | zero => intro h; exact absurd h (Nat.not_lt_zero _)
  | succ n ih =>
    show 0 < (if nu n = true ∧ rd_gm nu st b n < st (16 * n + b) then st (16 * n + b) else rd_gm nu st b n) → ∃ d, d < n + 1 ∧ nu d = true ∧ st (16 * d + b) = (if nu n = true ∧ rd_gm nu st b n < st (16 * n + b) then st (16 * n + b) else rd_gm nu st b n)
    split
    · rename_i h
      intro _
      exact ⟨n, by omega, h.1, rfl⟩
    · intro h
      obtain ⟨d, h1, h2, h3⟩ := ih h
      exact ⟨d, by omega, h2, h3⟩
theorem rd_gmC {nu : Nat → Bool} {st st' : Nat → Nat} {b : Nat} : ∀ {n : Nat}, (∀ d, d < n → st (16 * d + b) = st' (16 * d + b)) → rd_gm nu st b n = rd_gm nu st' b n := by
  intro n
  induction n with
  | zero => intro _; rfl
  | succ n ih =>
    intro h
    show (if nu n = true ∧ rd_gm nu st b n < st (16 * n + b) then st (16 * n + b) else rd_gm nu st b n) = (if nu n = true ∧ rd_gm nu st' b n < st' (16 * n + b) then st' (16 * n + b) else rd_gm nu st' b n)
    rw [ih (fun d hd => h d (by omega)), h n (by omega)]
theorem rd_gmB {nu : Nat → Bool} {st : Nat → Nat} {b B : Nat} (hb : b < 16) (h : ∀ c, c < 80 → st c ≤ B) : ∀ {n : Nat}, n ≤ 5 → rd_gm nu st b n ≤ B := by
  intro n
  induction n with
  | zero => intro _; exact Nat.zero_le _
  | succ n ih =>
    intro hn
    show (if nu n = true ∧ rd_gm nu st b n < st (16 * n + b) then st (16 * n + b) else rd_gm nu st b n) ≤ B
    have := ih (by omega)
    have := h (16 * n + b) (by omega)
    split <;> omega
def rd_G (nu : Nat → Bool) (st : Nat → Nat) (b s : Nat) : Nat := if s < rd_gm nu st b 5 then rd_gm nu st b 5 else 0
def rd_g (nu : Nat → Bool) (st : Nat → Nat) (b s d : Nat) : Bool := decide (0 < rd_G nu st b s ∧ nu d = true ∧ st (16 * d + b) = rd_G nu st b s)
theorem rd_gI {nu : Nat → Bool} {st : Nat → Nat} {b s d : Nat} : rd_g nu st b s d = true ↔ 0 < rd_G nu st b s ∧ nu d = true ∧ st (16 * d + b) = rd_G nu st b s := by
  unfold rd_g; exact decide_eq_true_iff
theorem rd_gX {nu : Nat → Bool} {st : Nat → Nat} {b s : Nat} (h : 0 < rd_G nu st b s) : ∃ d, d < 5 ∧ rd_g nu st b s d = true := by
  have h' := h
  unfold rd_G at h'
  split at h'
  · obtain ⟨d, h1, h2, h3⟩ := rd_gmA h'
    refine ⟨d, h1, rd_gI.mpr ⟨h, h2, ?_⟩⟩
    rw [h3]; unfold rd_G; rename_i hs; rw [if_pos hs]
  · omega
theorem rd_gC {nu : Nat → Bool} {st st' : Nat → Nat} {b s d : Nat} (h : ∀ d, d < 5 → st (16 * d + b) = st' (16 * d + b)) (hd : d < 5) : rd_g nu st b s d = rd_g nu st' b s d := by
  unfold rd_g rd_G
  rw [rd_gmC h, h d hd]
/-- a stamp above all others: those that got it are the good ones -/
theorem rd_new {nu ch : Nat → Bool} {st st' : Nat → Nat} {b s : Nat} (hb : b < 16) (h : ∀ c, c < 80 → st c ≤ s) (hu : ∀ d, d < 5 → ch d = true → nu d = true) (hx : ∃ d, d < 5 ∧ ch d = true)
    (hs : ∀ d, d < 5 → st' (16 * d + b) = if ch d = true then s + 1 else st (16 * d + b)) : ∀ d, d < 5 → rd_g nu st' b s d = ch d := by
  obtain ⟨e, he, hc⟩ := hx
  have h1 : s + 1 ≤ rd_gm nu st' b 5 := by
    have := rd_gmU (nu := nu) (st := st') (b := b) he (hu e he hc)
    rw [hs e he, if_pos hc] at this
    exact this
  have h2 : rd_gm nu st' b 5 = s + 1 := by
    obtain ⟨d, hd, _, e⟩ := rd_gmA (nu := nu) (st := st') (b := b) (n := 5) (by omega)
    rw [hs d hd] at e
    have := h (16 * d + b) (by omega)
    split at e <;> omega
  have h3 : rd_G nu st' b s = s + 1 := by unfold rd_G; rw [h2, if_pos (by omega)]
  intro d hd
  have h4 := h (16 * d + b) (by omega)
  cases hc : ch d with
  | true => exact rd_gI.mpr ⟨by omega, hu d hd hc, by rw [hs d hd, if_pos hc, h3]⟩
  | false =>
    cases hg : rd_g nu st' b s d with
    | false => rfl
    | true =>
      obtain ⟨_, _, g⟩ := rd_gI.mp hg
      rw [hs d hd, hc, h3] at g
      simp at g
      omega
def rd_fw (f : Nat → Bool) (un : Nat → Nat) (b : Nat) : Nat → Nat
  | 0 => 0
  | n + 1 => if f n = true ∧ (rd_fw f un b n = 0 ∨ un (16 * n + b) + 1 < rd_fw f un b n) then un (16 * n + b) + 1 else rd_fw f un b n
def rd_mo (f : Nat → Bool) (un : Nat → Nat) (b : Nat) : Nat → Nat
  | 0 => 0
  | n + 1 => if f n = true ∧ rd_mo f un b n < un (16 * n + b) + 1 then un (16 * n + b) + 1 else rd_mo f un b n
theorem rd_fwS (f : Nat → Bool) (un : Nat → Nat) (b n : Nat) : rd_fw f un b (n + 1) = if f n = true ∧ (rd_fw f un b n = 0 ∨ un (16 * n + b) + 1 < rd_fw f un b n) then un (16 * n + b) + 1 else rd_fw f un b n := rfl
theorem rd_moS (f : Nat → Bool) (un : Nat → Nat) (b n : Nat) : rd_mo f un b (n + 1) = if f n = true ∧ rd_mo f un b n < un (16 * n + b) + 1 then un (16 * n + b) + 1 else rd_mo f un b n := rfl
theorem rd_fwB {f : Nat → Bool} {un : Nat → Nat} {b : Nat} (hb : b < 16) (h : ∀ c, c < 80 → un c ≤ 8) : ∀ {n : Nat}, n ≤ 5 → rd_fw f un b n ≤ 9 := by
  intro n
  induction n with
  | zero => intro _; exact Nat.zero_le _
  | succ n ih =>
    intro hn
    have := ih (by omega)
    have := h (16 * n + b) (by omega)
    rw [rd_fwS]
    split <;> omega
theorem rd_moB {f : Nat → Bool} {un : Nat → Nat} {b : Nat} (hb : b < 16) (h : ∀ c, c < 80 → un c ≤ 8) : ∀ {n : Nat}, n ≤ 5 → rd_mo f un b n ≤ 9 := by
  intro n
  induction n with
  | zero => intro _; exact Nat.zero_le _
  | succ n ih =>
    intro hn
    have := ih (by omega)
    have := h (16 * n + b) (by omega)
    rw [rd_moS]
    split <;> omega
theorem rd_fwL {f : Nat → Bool} {un : Nat → Nat} {b : Nat} : ∀ {n d : Nat}, d < n → f d = true → 0 < rd_fw f un b n ∧ rd_fw f un b n ≤ un (16 * d + b) + 1 := by
  intro n
  induction n with
  | zero => intro d h; omega
  | succ n ih =>
    intro d hd hf
    rw [rd_fwS]
    by_cases e : d = n
    · subst e
      by_cases z : rd_fw f un b d = 0 ∨ un (16 * d + b) + 1 < rd_fw f un b d
      · rw [if_pos ⟨hf, z⟩]; omega
      · rw [if_neg (fun y => z y.2)]; omega
    · have := ih (d := d) (by omega) hf
      split <;> omega
theorem rd_fw0 {f : Nat → Bool} {un : Nat → Nat} {b : Nat} : ∀ {n : Nat}, (∀ d, d < n → f d = false) → rd_fw f un b n = 0 := by
  intro n
  induction n with
  | zero => intro _; rfl
  | succ n ih =>
    intro h
    rw [rd_fwS, if_neg (by rw [h n (by omega)]; simp), ih (fun d hd => h d (by omega))]
theorem rd_fwC {f g : Nat → Bool} {un un' : Nat → Nat} {b : Nat} : ∀ {n : Nat}, (∀ d, d < n → f d = g d) → (∀ d, d < n → f d = true → un (16 * d + b) = un' (16 * d + b)) → rd_fw f un b n = rd_fw g un' b n := by
  intro n
  induction n with
  | zero => intro _ _; rfl
  | succ n ih =>
    intro h h'
    rw [rd_fwS, rd_fwS, ih (fun d hd => h d (by omega)) (fun d hd => h' d (by omega)), ← h n (by omega)]
    cases hf : f n with
    | false => simp
    | true => rw [h' n (by omega) hf]
/-! loads, the least loaded -/
def rd_ld (st : Nat → Nat) (d : Nat) : Nat → Nat
  | 0 => 0
  | n + 1 => rd_ld st d n + (if st (16 * d + n) = 0 then 0 else 1)
theorem rd_ldB (st : Nat → Nat) (d : Nat) : ∀ n, rd_ld st d n ≤ n := by
  intro n
  induction n with
  | zero => exact Nat.le_refl _
  | succ n ih =>
    show rd_ld st d n + _ ≤ n + 1
    split <;> omega
theorem rd_ldC {st st' : Nat → Nat} {d : Nat} : ∀ {n : Nat}, (∀ b, b < n → st (16 * d + b) = st' (16 * d + b)) → rd_ld st d n = rd_ld st' d n := by
  intro n
  induction n with
  | zero => intro _; rfl
  | succ n ih =>
    intro h
    show rd_ld st d n + _ = rd_ld st' d n + _
    rw [ih (fun b hb => h b (by omega)), h n (by omega)]
def rd_il (nu : Nat → Bool) (st : Nat → Nat) (ok : Nat → Bool) : Nat → Nat
  | 0 => 0
  | n + 1 => if ok n = true ∧ nu n = true ∧ (rd_il nu st ok n = 0 ∨ rd_ld st n 16 < rd_ld st (rd_il nu st ok n - 1) 16) then n + 1 else rd_il nu st ok n
theorem rd_ilS (nu : Nat → Bool) (st : Nat → Nat) (ok : Nat → Bool) (n : Nat) : rd_il nu st ok (n + 1) = if ok n = true ∧ nu n = true ∧ (rd_il nu st ok n = 0 ∨ rd_ld st n 16 < rd_ld st (rd_il nu st ok n - 1) 16) then n + 1 else rd_il nu st ok n := rfl
theorem rd_ilP {nu : Nat → Bool} {st : Nat → Nat} {ok : Nat → Bool} : ∀ {n : Nat}, rd_il nu st ok n = 0 ∨ (rd_il nu st ok n ≤ n ∧ ok (rd_il nu st ok n - 1) = true ∧ nu (rd_il nu st ok n - 1) = true) := by
  intro n
  induction n with
  | zero => exact Or.inl rfl
  | succ n ih =>
    rw [rd_ilS]
    split
    · rename_i h
      exact Or.inr ⟨Nat.le_refl _, h.1, h.2.1⟩
    · rcases ih with ih | ih
      · exact Or.inl ih
      · exact Or.inr ⟨by omega, ih.2⟩
theorem rd_il0 {nu : Nat → Bool} {st : Nat → Nat} {ok : Nat → Bool} : ∀ {n d : Nat}, d < n → ok d = true → nu d = true → rd_il nu st ok n ≠ 0 := by
  intro n
  induction n with
  | zero => intro d h; omega
  | succ n ih =>
    intro d hd h1 h2
    rw [rd_ilS]
    by_cases e : d = n
    · subst e
      split
      · omega
      · rename_i h
        intro z
        exact h ⟨h1, h2, Or.inl z⟩
    · have := ih (d := d) (by omega) h1 h2
      split <;> omega
theorem rd_ilC {nu : Nat → Bool} {st st' : Nat → Nat} {ok ok' : Nat → Bool} : ∀ {n : Nat}, (∀ d, d < n → ok d = ok' d) → (∀ d, d < n → ok d = true → rd_ld st d 16 = rd_ld st' d 16) → rd_il nu st ok n = rd_il nu st' ok' n := by
  intro n
  induction n with
  | zero => intro _ _; rfl
  | succ n ih =>
    intro h h'
    have e := ih (fun d hd => h d (by omega)) (fun d hd => h' d (by omega))
    rw [rd_ilS, rd_ilS, ← e, ← h n (by omega)]
    cases hf : ok n with
    | false => simp
    | true =>
      rw [h' n (by omega) hf]
      rcases rd_ilP (nu := nu) (st := st) (ok := ok) (n := n) with z | ⟨z1, z2, z3⟩
      · rw [z]
        simp
      · by_cases z : rd_il nu st ok n = 0
        · rw [z]; simp
        · rw [h' (rd_il nu st ok n - 1) (by omega) z2]
/-- replicas of b on the nodes of f get x -/
def rd_set (x : Nat) (f : Nat → Bool) (b : Nat) (g : Nat → Nat) : Nat → Nat := fun c => if c % 16 = b ∧ f (c / 16) = true then x else g c
theorem rd_setA {x : Nat} {f : Nat → Bool} {b : Nat} {g : Nat → Nat} {d : Nat} (hb : b < 16) : rd_set x f b g (16 * d + b) = if f d = true then x else g (16 * d + b) := by
  unfold rd_set
  rw [show (16 * d + b) % 16 = b by omega, show (16 * d + b) / 16 = d by omega]
  simp
theorem rd_setN {x : Nat} {f : Nat → Bool} {b b' : Nat} {g : Nat → Nat} {d : Nat} (hb : b' < 16) (h : b' ≠ b) : rd_set x f b g (16 * d + b') = g (16 * d + b') := by
  unfold rd_set
  rw [show (16 * d + b') % 16 = b' by omega]
  simp [h]
theorem rd_setS {x : Nat} {f : Nat → Bool} {b : Nat} {g : Nat → Nat} {d c : Nat} (hb : b < 16) : rd_set x (fun y => f y || y == d) b g c = if c = 16 * d + b then x else rd_set x f b g c := by
  unfold rd_set
  by_cases h : c = 16 * d + b
  · subst h
    rw [show (16 * d + b) % 16 = b by omega, show (16 * d + b) / 16 = d by omega]
    simp
  · rw [if_neg h]
    by_cases h1 : c % 16 = b
    · have h2 : c / 16 ≠ d := by omega
      simp [h1, h2]
    · simp [h1]
theorem rd_setC {x : Nat} {f f' : Nat → Bool} {b : Nat} {g : Nat → Nat} {c : Nat} (hc : c < 80) (h : ∀ d, d < 5 → f d = f' d) : rd_set x f b g c = rd_set x f' b g c := by
  unfold rd_set
  rw [h (c / 16) (by omega)]
theorem rd_set0 {x : Nat} {b : Nat} {g : Nat → Nat} {c : Nat} : rd_set x (fun _ => false) b g c = g c := by
  unfold rd_set
  simp
theorem rd_setB {x B : Nat} {f : Nat → Bool} {b : Nat} {g : Nat → Nat} {c : Nat} (hx : x ≤ B) (h : g c ≤ B) : rd_set x f b g c ≤ B := by
  unfold rd_set
  split <;> omega
/-- the nodes that get a new block -/
def rd_ch (nu : Nat → Bool) (st : Nat → Nat) : Nat → Nat → Bool
  | 0 => fun _ => false
  | n + 1 => fun x => rd_ch nu st n x || (rd_il nu st (fun y => !rd_ch nu st n y) 5 == x + 1)
theorem rd_chU {nu : Nat → Bool} {st : Nat → Nat} : ∀ {n d : Nat}, rd_ch nu st n d = true → nu d = true := by
  intro n
  induction n with
  | zero => intro d h; exact absurd h (by simp [rd_ch])
  | succ n ih =>
    intro d h
    have h' : (rd_ch nu st n d || (rd_il nu st (fun y => !rd_ch nu st n y) 5 == d + 1)) = true := h
    rw [Bool.or_eq_true] at h'
    rcases h' with h' | h'
    · exact ih h'
    · have e : rd_il nu st (fun y => !rd_ch nu st n y) 5 = d + 1 := by simpa using h'
      rcases rd_ilP (nu := nu) (st := st) (ok := fun y => !rd_ch nu st n y) (n := 5) with z | ⟨_, _, z⟩
      · omega
      · rw [e] at z; exact z
