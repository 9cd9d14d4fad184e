section
/-! rows of kit/rows, pasted -/
theorem pk_us {f : Nat → Int32} {k : Nat} {x : Int32} : upd f k x k = x := if_pos rfl
theorem pk_un {f : Nat → Int32} {k j : Nat} {x : Int32} (h : j ≠ k) : upd f k x j = f j := if_neg h
theorem pk_uLs {f : Nat → Int64} {k : Nat} {x : Int64} : vp_updL f k x k = x := if_pos rfl
theorem pk_uLn {f : Nat → Int64} {k j : Nat} {x : Int64} (h : j ≠ k) : vp_updL f k x j = f j := if_neg h
theorem pk_sub {a b : Nat} (h : b ≤ a) : nI a - nI b = nI (a - b) := by
  obtain ⟨c, rfl⟩ : ∃ c, a = c + b := ⟨a - b, by omega⟩
  rw [← nI_add, Int32.add_sub_cancel, Nat.add_sub_cancel]
theorem pk_m1 (n : Nat) : nI (n + 1) + (-1) = nI n := by
  rw [← nI_1, Int32.add_assoc, show (1 : Int32) + (-1) = 0 from rfl, Int32.add_zero]
theorem pk_mul (a b : Nat) : nI a * nI b = nI (a * b) := (Int32.ofNat_mul a b).symm
theorem pk_div {a d : Nat} (ha : a < 2 ^ 31) (h0 : 0 < d) (hd : d < 2 ^ 31) : nI a / nI d = nI (a / d) := by
  apply Int32.toInt_inj.mp
  rw [lg_idiv_nonneg (by rw [nI_toInt ha]; omega) (by rw [nI_toInt hd]; omega), nI_toInt ha, nI_toInt hd, nI_toInt (Nat.lt_of_le_of_lt (Nat.div_le_self a d) ha)]
  first | rfl | exact (Int.natCast_ediv _ _).symm
theorem pk_rem {a d : Nat} (ha : a < 2 ^ 31) (h0 : 0 < d) (hd : d < 2 ^ 31) : nI a - nI a / nI d * nI d = nI (a % d) := by
  rw [pk_div ha h0 hd, pk_mul, pk_sub (Nat.div_mul_le_self a d)]
  exact congrArg nI (by have := Nat.div_add_mod' a d; omega)
theorem pk_ix (x : Int32) {n : Nat} (hn : n < 2 ^ 31) : x < 0 ∨ nI n ≤ x ∨ ∃ j : Nat, j < n ∧ x = nI j := by
  by_cases h : x < 0
  · exact Or.inl h
  · obtain ⟨j, hj, rfl⟩ := nI_of h
    by_cases h2 : j < n
    · exact Or.inr (Or.inr ⟨j, h2, rfl⟩)
    · exact Or.inr (Or.inl (nI_le (by omega) hj))
theorem pk_le {x y : Int32} {A B : Prop} (a b : Nat) (f : a ≤ b → A) (g : b < a → B) (hx : x = nI a := by rfl) (hy : y = nI b := by rfl) (ha : a < 2 ^ 31 := by omega) (hb : b < 2 ^ 31 := by omega) : (x ≤ y → A) ∧ (¬ x ≤ y → B) := by
  subst hx hy
  rw [nI_leI ha hb]
  exact ⟨f, fun z => g (by omega)⟩
theorem pk_lt {x y : Int32} {A B : Prop} (a b : Nat) (f : a < b → A) (g : b ≤ a → B) (hx : x = nI a := by rfl) (hy : y = nI b := by rfl) (ha : a < 2 ^ 31 := by omega) (hb : b < 2 ^ 31 := by omega) : (x < y → A) ∧ (¬ x < y → B) := by
  subst hx hy
  rw [nI_ltI ha hb]
  exact ⟨f, fun z => g (by omega)⟩
theorem pk_eq {x y : Int32} {A B : Prop} (a b : Nat) (f : a = b → A) (g : a ≠ b → B) (hx : x = nI a := by rfl) (hy : y = nI b := by rfl) (ha : a < 2 ^ 31 := by omega) (hb : b < 2 ^ 31 := by omega) : (x = y → A) ∧ (¬ x = y → B) := by
  subst hx hy
  rw [nI_eq ha hb]
  exact ⟨f, g⟩
theorem pk_in {x : Int32} (n N : Nat) (h : n < N) (hx : x = nI n := by rfl) (hN : N < 2 ^ 31 := by omega) : vp_in x N := by
  subst hx
  exact vp_in_nI h hN
theorem pk_cl {x : Int32} (n : Nat) (hx : x = nI n := by rfl) (h : n < 2 ^ 31 := by omega) : x.toNatClampNeg = n := by
  subst hx
  exact nI_clamp h
theorem pk_tn {n : Nat} (h : n < 2 ^ 32) : (nI n).toBitVec.toNat = n := Nat.mod_eq_of_lt h
theorem pk_and (x : Int32) {m : Int32} (k : Nat) (hm : m.toBitVec.toNat = 2 ^ k - 1) : x &&& m = nI (x.toBitVec.toNat % 2 ^ k) := by
  apply Int32.toBitVec_inj.mp
  apply BitVec.eq_of_toNat_eq
  rw [Int32.toBitVec_and, BitVec.toNat_and, hm, Nat.and_two_pow_sub_one_eq_mod]
  show _ = (BitVec.ofNat 32 _).toNat
  rw [BitVec.toNat_ofNat]
  exact (Nat.mod_eq_of_lt (Nat.lt_of_le_of_lt (Nat.mod_le _ _) x.toBitVec.isLt)).symm
theorem pk_andN {n : Nat} (h : n < 2 ^ 32) {m : Int32} (k : Nat) (hm : m.toBitVec.toNat = 2 ^ k - 1) : nI n &&& m = nI (n % 2 ^ k) := by
  rw [pk_and _ k hm, pk_tn h]
theorem pk_shl (a s : Int32) (k : Nat) (hs : (s.toBitVec.smod 32).toNat = k) : (a <<< s).toBitVec.toNat = a.toBitVec.toNat * 2 ^ k % 2 ^ 32 := by
  show (a.toBitVec <<< (s.toBitVec.smod 32).toNat).toNat = _
  rw [hs, BitVec.toNat_shiftLeft, Nat.shiftLeft_eq]
theorem pk_shlN {n : Nat} (s : Int32) (k : Nat) (hs : (s.toBitVec.smod 32).toNat = k) (h : n * 2 ^ k < 2 ^ 32) : nI n <<< s = nI (n * 2 ^ k) := by
  apply Int32.toBitVec_inj.mp
  apply BitVec.eq_of_toNat_eq
  have hn : n < 2 ^ 32 := Nat.lt_of_le_of_lt (Nat.le_mul_of_pos_right n (Nat.two_pow_pos k)) h
  rw [pk_shl _ _ k hs, pk_tn hn, pk_tn h, Nat.mod_eq_of_lt h]
theorem pk_shr (a s : Int32) (k : Nat) (hs : (s.toBitVec.smod 32).toNat = k) : (a >>> s).toInt = a.toInt >>> k := by
  show (a.toBitVec.sshiftRight (s.toBitVec.smod 32).toNat).toInt = _
  rw [hs, BitVec.toInt_sshiftRight]
  rfl
theorem pk_shrN {n : Nat} (h : n < 2 ^ 31) (s : Int32) (k : Nat) (hs : (s.toBitVec.smod 32).toNat = k) : nI n >>> s = nI (n / 2 ^ k) := by
  apply Int32.toInt_inj.mp
  have h2 : n / 2 ^ k ≤ n := Nat.div_le_self _ _
  rw [pk_shr _ _ k hs, nI_toInt h, nI_toInt (by omega), Int.shiftRight_eq_div_pow]
  rfl
theorem pk_lT {n : Nat} (h : n < 2 ^ 63) : (lN n).toInt = (n : Int) := lg_ofNat_toInt h
theorem pk_lLT {a b : Nat} (ha : a < 2 ^ 63) (hb : b < 2 ^ 63) : lN a < lN b ↔ a < b := by
  rw [Int64.lt_iff_toInt_lt, pk_lT ha, pk_lT hb]; omega
theorem pk_lLE {a b : Nat} (ha : a < 2 ^ 63) (hb : b < 2 ^ 63) : lN a ≤ lN b ↔ a ≤ b := by
  rw [Int64.le_iff_toInt_le, pk_lT ha, pk_lT hb]; omega
theorem pk_lEQ {a b : Nat} (ha : a < 2 ^ 63) (hb : b < 2 ^ 63) : lN a = lN b ↔ a = b := by
  rw [← Int64.toInt_inj, pk_lT ha, pk_lT hb]; omega
theorem pk_loop {σ : Type} (W : Nat → Nat → σ → Prop) (I : Nat → σ → Prop) (e i0 : Nat) (s : σ) (hi : i0 ≤ e) (h0 : I i0 s) (hx : ∀ n s, I e s → W (n + 1) e s)
    (hs : ∀ n i s, i < e → I i s → (∀ s', I (i + 1) s' → W n (i + 1) s') → W (n + 1) i s) : ∃ n, W n i0 s :=
  ⟨e + 1, loop_i W I e hx hs (e + 1) i0 s hi (by omega) h0⟩
theorem pk_least (P : Nat → Prop) (h : ∃ k, P k) : ∃ k, P k ∧ ∀ j, j < k → ¬ P j := by
  obtain ⟨k, hk⟩ := h
  induction k using Nat.strongRecOn with
  | ind k ih =>
    by_cases e : ∃ j, j < k ∧ P j
    · obtain ⟨j, hj, pj⟩ := e
      exact ih j hj pj
    · exact ⟨k, hk, fun j hj pj => e ⟨j, hj, pj⟩⟩
theorem nx_and (a b : Nat) : nI a &&& nI b = nI (a &&& b) := by
  apply Int32.toBitVec_inj.1
  show BitVec.ofNat 32 a &&& BitVec.ofNat 32 b = BitVec.ofNat 32 (a &&& b)
  apply BitVec.eq_of_getLsbD_eq
  intro i hi
  simp [hi]
theorem wb_tb (n : Nat) : (lN n).toBitVec = BitVec.ofNat 64 n := rfl
theorem wb_inj {a b : Int64} (h : a.toBitVec = b.toBitVec) : a = b := Int64.toBitVec_inj.mp h
theorem wb_tn {n : Nat} (h : n < 2 ^ 64) : (lN n).toBitVec.toNat = n := by rw [wb_tb, BitVec.toNat_ofNat, Nat.mod_eq_of_lt h]
theorem wb_sm : ∀ k, k < 64 → (BitVec.ofNat 64 k).smod 64 = BitVec.ofNat 64 k := by decide +kernel
theorem wb_c : ∀ k, k < 64 → ((nI k).toInt64 &&& 63) = lN k := by decide +kernel
theorem wb_lt2 {a b : Nat} (h : a < b) : 2 ^ a < 2 ^ b := Nat.pow_lt_pow_right (by decide) h
theorem wb_shl (n : Nat) {k : Nat} (hk : k < 64) : lN n <<< ((nI k).toInt64 &&& 63) = lN (n * 2 ^ k) := by
  rw [wb_c k hk]
  apply wb_inj
  rw [Int64.toBitVec_shiftLeft, wb_tb, wb_tb, wb_tb, wb_sm k hk]
  apply BitVec.eq_of_toNat_eq
  rw [BitVec.shiftLeft_eq', BitVec.toNat_shiftLeft, BitVec.toNat_ofNat, BitVec.toNat_ofNat, BitVec.toNat_ofNat, Nat.mod_eq_of_lt (show k < 2 ^ 64 by omega), Nat.shiftLeft_eq, Nat.mul_mod, Nat.mod_mod, ← Nat.mul_mod]
theorem wb_or {a b : Nat} (ha : a < 2 ^ 64) (hb : b < 2 ^ 64) : lN a ||| lN b = lN (a ||| b) := by
  apply wb_inj
  rw [Int64.toBitVec_or, wb_tb, wb_tb, wb_tb]
  apply BitVec.eq_of_toNat_eq
  rw [BitVec.toNat_or, BitVec.toNat_ofNat, BitVec.toNat_ofNat, BitVec.toNat_ofNat, Nat.mod_eq_of_lt ha, Nat.mod_eq_of_lt hb, Nat.mod_eq_of_lt (Nat.or_lt_two_pow ha hb)]
theorem wb_and {a b : Nat} (ha : a < 2 ^ 64) (hb : b < 2 ^ 64) : lN a &&& lN b = lN (a &&& b) := by
  apply wb_inj
  rw [Int64.toBitVec_and, wb_tb, wb_tb, wb_tb]
  apply BitVec.eq_of_toNat_eq
  rw [BitVec.toNat_and, BitVec.toNat_ofNat, BitVec.toNat_ofNat, BitVec.toNat_ofNat, Nat.mod_eq_of_lt ha, Nat.mod_eq_of_lt hb, Nat.mod_eq_of_lt (Nat.and_lt_two_pow _ hb)]
theorem wb_mask {n k : Nat} (hn : n < 2 ^ 64) (hk : k < 64) : lN n &&& lN (2 ^ k - 1) = lN (n % 2 ^ k) := by
  rw [wb_and hn (by have := wb_lt2 hk; omega), Nat.and_two_pow_sub_one_eq_mod]
theorem pf_lI {a : Nat} (h : a < 2 ^ 63) : (lN a).toInt = (a : Int) := lg_ofNat_toInt h
theorem pf_shr {a d : Nat} {D : Int64} (hD : (D.toBitVec.smod 64).toNat = d) (h : a < 2 ^ 62) : lN a >>> D = lN (a / 2 ^ d) := by
  have hd : a / 2 ^ d ≤ a := Nat.div_le_self _ _
  apply Int64.toInt_inj.mp
  have e : (lN a >>> D).toInt = (lN a).toInt >>> d := by
    rw [← hD]
    exact BitVec.toInt_sshiftRight ..
  rw [e, Int.shiftRight_eq_div_pow, pf_lI (by omega), pf_lI (by omega)]
  rfl
end
section
/-! the pure tables: what records say -/
abbrev qt_T : Type := (Nat → Nat) × (Nat → Nat) × (Nat → Nat) × (Nat → Nat) × (Nat → Nat) × (Nat → Nat) × (Nat → Nat)
abbrev qt_R : Type := Nat × Nat × Nat × Nat × Nat
def qt_u (f : Nat → Nat) (k x : Nat) : Nat → Nat := fun j => if j = k then x else f j
theorem qt_us {f : Nat → Nat} {k x : Nat} : qt_u f k x k = x := if_pos rfl
theorem qt_un {f : Nat → Nat} {k x j : Nat} (h : j ≠ k) : qt_u f k x j = f j := if_neg h
def qt_m (n : Nat) : Int32 := nI n - 1
theorem qt_m0 : qt_m 0 = -1 := by decide +kernel
theorem qt_ms (n : Nat) : qt_m (n + 1) = nI n := nI_pred n
def qt_so (t : qt_T) : Nat → Nat := t.1
def qt_pl (t : qt_T) : Nat → Nat := t.2.1
def qt_cl (t : qt_T) : Nat → Nat := t.2.2.1
def qt_cw (t : qt_T) : Nat → Nat := t.2.2.2.1
def qt_rl (t : qt_T) : Nat → Nat := t.2.2.2.2.1
def qt_ro (t : qt_T) : Nat → Nat := t.2.2.2.2.2.1
def qt_sp (t : qt_T) : Nat → Nat := t.2.2.2.2.2.2
def qt_t0 : qt_T := (qt_u (fun _ => 0) 0 1, fun _ => 0, fun _ => 0, fun _ => 0, fun _ => 0, fun _ => 0, fun _ => 0)
/-- the directory in which an inode lies; the root's is the root -/
def qt_pa (pl : Nat → Nat) (i : Nat) : Nat := (pl i - 1) / 8
def qt_an (pl : Nat → Nat) : Nat → Nat → Nat
  | 0, x => x
  | n + 1, x => qt_an pl n (qt_pa pl x)
/-- some block of a row is b -/
def qt_in (rl ro : Nat → Nat) (b : Nat) : Prop := ∃ i k : Nat, i < 12 ∧ k < rl i ∧ ro (3 * i + k) = b
def qt_ap (t : qt_T) (r : qt_R) (k : Nat) : qt_T :=
  match t, r with
  | (so, pl, cl, cw, rl, ro, sp), (e, q, a, b, c) =>
    if q = 0 then (qt_u so a (if c = 0 then 1 else 2), qt_u pl a (b + 1), qt_u cl a c, qt_u cw a 0, qt_u rl a 0, ro, sp)
    else if q = 1 then (so, pl, cl, cw, qt_u rl a (rl a + 1), qt_u ro (3 * a + rl a) b, qt_u sp b (2048 * e + k))
    else if q = 2 then (so, pl, cl, cw, rl, ro, qt_u sp a (2048 * e + k))
    else if q = 3 then (qt_u so a 3, pl, cl, qt_u cw a b, (if b = 0 then qt_u rl a (rl a - 1) else rl), ro, sp)
    else if q = 4 then (qt_u so a 0, pl, cl, cw, qt_u rl a 0, ro, sp)
    else (so, qt_u pl a (b + 1), cl, cw, rl, ro, sp)
def qt_ab (lg : Nat → qt_R) : Nat → qt_T
  | 0 => qt_t0
  | n + 1 => qt_ap (qt_ab lg n) (lg n) n
/-- what is tested ahead of a record -/
def qt_ok (t : qt_T) (r : qt_R) : Prop :=
  match t, r with
  | (so, pl, _, _, rl, _, _), (e, q, a, b, c) =>
    e ≤ 512 ∧ ((q = 0 ∧ 1 ≤ a ∧ a < 12 ∧ so a = 0 ∧ b < 96 ∧ so (b / 8) = 1 ∧ c ≤ 4)
      ∨ (q = 1 ∧ a < 12 ∧ so a = 2 ∧ rl a < 3 ∧ b < 16 ∧ c = 1)
      ∨ (q = 2 ∧ a < 16 ∧ b = 0 ∧ c = 1)
      ∨ (q = 3 ∧ a < 12 ∧ so a = 2 ∧ b ≤ 8 ∧ c = 1)
      ∨ (q = 4 ∧ 1 ≤ a ∧ a < 12 ∧ b = 0 ∧ c = 1 ∧ (so a = 3 ∨ (so a = 1 ∧ ∀ x, 1 ≤ x → x < 12 → so x ≠ 0 → qt_pa pl x ≠ a)))
      ∨ (q = 5 ∧ 1 ≤ a ∧ a < 12 ∧ so a ≠ 0 ∧ b < 96 ∧ so (b / 8) = 1 ∧ c = 1 ∧ ∀ n, qt_an pl n (b / 8) ≠ a))
/-- ranks: the tree -/
def qt_tr (so pl r : Nat → Nat) : Prop := ∀ i, 1 ≤ i → i < 12 → so i ≠ 0 → r (qt_pa pl i) < r i
def qt_iv (t : qt_T) : Prop :=
  match t with
  | (so, pl, cl, cw, rl, ro, sp) =>
    so 0 = 1 ∧ pl 0 = 0 ∧ (∀ i, i < 12 → so i ≤ 3) ∧ (∀ i, i < 12 → rl i ≤ 3) ∧ (∀ i k, i < 12 → k < rl i → ro (3 * i + k) < 16)
      ∧ (∀ i, 1 ≤ i → i < 12 → so i ≠ 0 → 1 ≤ pl i ∧ pl i ≤ 96 ∧ so (qt_pa pl i) = 1)
      ∧ (∃ r, qt_tr so pl r) ∧ (∀ b, b < 16 → sp b < 2097152) ∧ (∀ i, i < 12 → cl i ≤ 4) ∧ (∀ i, i < 12 → cw i ≤ 8)
theorem qt_iv0 : qt_iv qt_t0 := by
  refine ⟨rfl, rfl, ?_, ?_, ?_, ?_, ⟨fun _ => 0, ?_⟩, ?_, ?_, ?_⟩
  · intro i _
    by_cases h : i = 0
    · subst h; decide
    · rw [qt_un h]; omega
  · intro i _; exact Nat.zero_le _
  · intro i k _ h; exact absurd h (Nat.not_lt_zero _)
  · intro i h1 _ h; exact absurd (qt_un (by omega)) h
  · intro i h1 _ h; exact absurd (qt_un (by omega)) h
  · intro b _; show 0 < 2097152; decide
  · intro b _; exact Nat.zero_le _
  · intro b _; exact Nat.zero_le _
theorem qt_paU {pl : Nat → Nat} {a x i : Nat} (h : i ≠ a) : qt_pa (qt_u pl a x) i = qt_pa pl i := by
  unfold qt_pa; rw [qt_un h]
theorem qt_paS {pl : Nat → Nat} {a b : Nat} : qt_pa (qt_u pl a (b + 1)) a = b / 8 := by
  unfold qt_pa; rw [qt_us]; rfl
theorem qt_ivMake {so pl cl cw rl ro sp : Nat → Nat} {e a b c k : Nat} (I : qt_iv (so, pl, cl, cw, rl, ro, sp)) (h1 : 1 ≤ a) (h2 : a < 12) (h3 : so a = 0) (h4 : b < 96) (h5 : so (b / 8) = 1) (h6 : c ≤ 4) :
    qt_iv (qt_ap (so, pl, cl, cw, rl, ro, sp) (e, 0, a, b, c) k) := by
  obtain ⟨i1, i2, i3, i4, i5, i6, ⟨r, i7⟩, i8, i9, i10⟩ := I
  have hv : (if c = 0 then 1 else 2) ≤ 3 ∧ (if c = 0 then 1 else 2) ≠ 0 := by split <;> omega
  refine ⟨?_, ?_, ?_, ?_, ?_, ?_, ⟨qt_u r a (r (b / 8) + 1), ?_⟩, i8, ?_, ?_⟩
  · exact (qt_un (by omega)).trans i1
  · exact (qt_un (by omega)).trans i2
  · intro i hi
    by_cases h : i = a
    · subst h; rw [qt_us]; exact hv.1
    · rw [qt_un h]; exact i3 i hi
  · intro i hi
    by_cases h : i = a
    · subst h; rw [qt_us]; omega
    · rw [qt_un h]; exact i4 i hi
  · intro i k hi hk
    by_cases h : i = a
    · subst h; rw [qt_us] at hk; omega
    · rw [qt_un h] at hk; exact i5 i k hi hk
  · intro i g1 g2 g3
    by_cases h : i = a
    · subst h
      refine ⟨by rw [qt_us]; omega, by rw [qt_us]; omega, ?_⟩
      rw [qt_paS, qt_un (by intro z; rw [z] at h5; omega)]; exact h5
    · rw [qt_un h] at g3
      obtain ⟨p1, p2, p3⟩ := i6 i g1 g2 g3
      refine ⟨by rw [qt_un h]; exact p1, by rw [qt_un h]; exact p2, ?_⟩
      rw [qt_paU h, qt_un (by intro z; rw [z] at p3; omega)]; exact p3
  · intro i g1 g2 g3
    by_cases h : i = a
    · subst h
      rw [qt_paS, qt_us, qt_un (by intro z; rw [z] at h5; omega)]; omega
    · rw [qt_un h] at g3
      obtain ⟨p1, p2, p3⟩ := i6 i g1 g2 g3
      rw [qt_paU h, qt_un h, qt_un (by intro z; rw [z] at p3; omega)]; exact i7 i g1 g2 g3
  · intro i hi
    by_cases h : i = a
    · subst h; rw [qt_us]; exact h6
    · rw [qt_un h]; exact i9 i hi
  · intro i hi
    by_cases h : i = a
    · subst h; rw [qt_us]; omega
    · rw [qt_un h]; exact i10 i hi
theorem qt_ivBlock {so pl cl cw rl ro sp : Nat → Nat} {e a b c k : Nat} (I : qt_iv (so, pl, cl, cw, rl, ro, sp)) (he : e ≤ 512) (hk : k < 1000) (h2 : a < 12) (h3 : rl a < 3) (h4 : b < 16) :
    qt_iv (qt_ap (so, pl, cl, cw, rl, ro, sp) (e, 1, a, b, c) k) := by
  obtain ⟨i1, i2, i3, i4, i5, i6, i7, i8, i9, i10⟩ := I
  refine ⟨i1, i2, i3, ?_, ?_, i6, i7, ?_, i9, i10⟩
  · intro i hi
    by_cases h : i = a
    · subst h; rw [qt_us]; omega
    · rw [qt_un h]; exact i4 i hi
  · intro i k hi hk
    by_cases h : i = a
    · subst h
      rw [qt_us] at hk
      by_cases h' : k = rl i
      · subst h'; rw [qt_us]; exact h4
      · rw [qt_un (by omega)]; exact i5 i k hi (by omega)
    · rw [qt_un h] at hk
      have := i4 i hi
      rw [qt_un (by omega)]; exact i5 i k hi hk
  · intro x hx
    by_cases h : x = b
    · subst h; rw [qt_us]; omega
    · rw [qt_un h]; exact i8 x hx
theorem qt_ivStamp {so pl cl cw rl ro sp : Nat → Nat} {e a b c k : Nat} (I : qt_iv (so, pl, cl, cw, rl, ro, sp)) (he : e ≤ 512) (hk : k < 1000) :
    qt_iv (qt_ap (so, pl, cl, cw, rl, ro, sp) (e, 2, a, b, c) k) := by
  obtain ⟨i1, i2, i3, i4, i5, i6, i7, i8, i9, i10⟩ := I
  refine ⟨i1, i2, i3, i4, i5, i6, i7, ?_, i9, i10⟩
  intro x hx
  by_cases h : x = a
  · subst h; rw [qt_us]; omega
  · rw [qt_un h]; exact i8 x hx
theorem qt_rlC {rl : Nat → Nat} {a b i : Nat} : (if b = 0 then qt_u rl a (rl a - 1) else rl) i ≤ rl i := by
  split
  · by_cases h : i = a
    · subst h; rw [qt_us]; omega
    · rw [qt_un h]; omega
  · exact Nat.le_refl _
theorem qt_ivClose {so pl cl cw rl ro sp : Nat → Nat} {e a b c k : Nat} (I : qt_iv (so, pl, cl, cw, rl, ro, sp)) (h2 : a < 12) (h3 : so a = 2) (h4 : b ≤ 8) :
    qt_iv (qt_ap (so, pl, cl, cw, rl, ro, sp) (e, 3, a, b, c) k) := by
  obtain ⟨i1, i2, i3, i4, i5, i6, ⟨r, i7⟩, i8, i9, i10⟩ := I
  have ha : a ≠ 0 := by intro z; rw [z] at h3; omega
  have hs : ∀ i, qt_u so a 3 i ≠ 0 → so i ≠ 0 := by
    intro i hi
    by_cases h : i = a
    · rw [h, h3]; decide
    · rw [qt_un h] at hi; exact hi
  refine ⟨(qt_un (by omega)).trans i1, i2, ?_, ?_, ?_, ?_, ⟨r, ?_⟩, i8, i9, ?_⟩
  · intro i hi
    by_cases h : i = a
    · subst h; rw [qt_us]; omega
    · rw [qt_un h]; exact i3 i hi
  · intro i hi
    exact Nat.le_trans qt_rlC (i4 i hi)
  · intro i k hi hk
    exact i5 i k hi (Nat.lt_of_lt_of_le hk qt_rlC)
  · intro i g1 g2 g3
    obtain ⟨p1, p2, p3⟩ := i6 i g1 g2 (hs i g3)
    refine ⟨p1, p2, ?_⟩
    rw [qt_un (by intro z; rw [z] at p3; omega)]; exact p3
  · intro i g1 g2 g3
    exact i7 i g1 g2 (hs i g3)
  · intro i hi
    by_cases h : i = a
    · subst h; rw [qt_us]; exact h4
    · rw [qt_un h]; exact i10 i hi
theorem qt_ivRemove {so pl cl cw rl ro sp : Nat → Nat} {e a b c k : Nat} (I : qt_iv (so, pl, cl, cw, rl, ro, sp)) (h1 : 1 ≤ a) (h2 : a < 12) (h3 : so a = 3 ∨ (so a = 1 ∧ ∀ x, 1 ≤ x → x < 12 → so x ≠ 0 → qt_pa pl x ≠ a)) :
    qt_iv (qt_ap (so, pl, cl, cw, rl, ro, sp) (e, 4, a, b, c) k) := by
  obtain ⟨i1, i2, i3, i4, i5, i6, ⟨r, i7⟩, i8, i9, i10⟩ := I
  have hs : ∀ i, qt_u so a 0 i ≠ 0 → so i ≠ 0 := by
    intro i hi
    by_cases h : i = a
    · rw [h, qt_us] at hi; omega
    · rw [qt_un h] at hi; exact hi
  refine ⟨(qt_un (by omega)).trans i1, i2, ?_, ?_, ?_, ?_, ⟨r, ?_⟩, i8, i9, i10⟩
  · intro i hi
    by_cases h : i = a
    · subst h; rw [qt_us]; omega
    · rw [qt_un h]; exact i3 i hi
  · intro i hi
    by_cases h : i = a
    · subst h; rw [qt_us]; omega
    · rw [qt_un h]; exact i4 i hi
  · intro i k hi hk
    by_cases h : i = a
    · subst h; rw [qt_us] at hk; omega
    · rw [qt_un h] at hk; exact i5 i k hi hk
  · intro i g1 g2 g3
    obtain ⟨p1, p2, p3⟩ := i6 i g1 g2 (hs i g3)
    refine ⟨p1, p2, ?_⟩
    rw [qt_un ?_]
    · exact p3
    · intro z
      rcases h3 with h3 | ⟨_, h3⟩
      · rw [z, h3] at p3; omega
      · exact h3 i g1 g2 (hs i g3) z
  · intro i g1 g2 g3
    exact i7 i g1 g2 (hs i g3)
theorem qt_anS (pl : Nat → Nat) (n x : Nat) : qt_an pl (n + 1) x = qt_an pl n (qt_pa pl x) := rfl
theorem qt_ivMove {so pl cl cw rl ro sp : Nat → Nat} {e a b c k : Nat} (I : qt_iv (so, pl, cl, cw, rl, ro, sp)) (h1 : 1 ≤ a) (h2 : a < 12) (h4 : b < 96) (h5 : so (b / 8) = 1) (h6 : ∀ n, qt_an pl n (b / 8) ≠ a) :
    qt_iv (qt_ap (so, pl, cl, cw, rl, ro, sp) (e, 5, a, b, c) k) := by
  obtain ⟨i1, i2, i3, i4, i5, i6, ⟨r, i7⟩, i8, i9, i10⟩ := I
  classical
  refine ⟨i1, (qt_un (by omega)).trans i2, i3, i4, i5, ?_, ⟨fun x => if ∃ n, qt_an pl n x = a then r x + (r (b / 8) + 1) else r x, ?_⟩, i8, i9, i10⟩
  · intro i g1 g2 g3
    by_cases h : i = a
    · subst h
      refine ⟨by rw [qt_us]; omega, by rw [qt_us]; omega, ?_⟩
      rw [qt_paS]; exact h5
    · rw [qt_un h, qt_paU h]; exact i6 i g1 g2 g3
  · intro i g1 g2 g3
    show (if ∃ n, qt_an pl n (qt_pa (qt_u pl a (b + 1)) i) = a then _ else _) < (if ∃ n, qt_an pl n i = a then _ else _)
    by_cases h : i = a
    · subst h
      rw [qt_paS, if_neg (fun z => h6 _ z.choose_spec), if_pos ⟨0, rfl⟩]; omega
    · rw [qt_paU h]
      have hr := i7 i g1 g2 g3
      by_cases hb : ∃ n, qt_an pl n (qt_pa pl i) = a
      · obtain ⟨n, hn⟩ := hb
        rw [if_pos ⟨n, hn⟩, if_pos ⟨n + 1, hn⟩]; omega
      · rw [if_neg hb, if_neg]
        · exact hr
        · rintro ⟨n, hn⟩
          cases n with
          | zero => exact h hn
          | succ n => exact hb ⟨n, hn⟩
theorem qt_ivAp {t : qt_T} {r : qt_R} {k : Nat} (I : qt_iv t) (h : qt_ok t r) (hk : k < 1000) : qt_iv (qt_ap t r k) := by
  obtain ⟨so, pl, cl, cw, rl, ro, sp⟩ := t
  obtain ⟨e, q, a, b, c⟩ := r
  obtain ⟨he, h⟩ := h
  rcases h with ⟨rfl, h1, h2, h3, h4, h5, h6⟩ | ⟨rfl, h1, h2, h3, h4, h5⟩ | ⟨rfl, h1, h2⟩ | ⟨rfl, h1, h2, h3, h4⟩ | ⟨rfl, h1, h2, h3, h4, h5⟩ | ⟨rfl, h1, h2, h3, h4, h5, h6, h7⟩
  · exact qt_ivMake I h1 h2 h3 h4 h5 h6
  · exact qt_ivBlock I he hk h1 h3 h4
  · exact qt_ivStamp I he hk
  · exact qt_ivClose I h1 h2 h3
  · exact qt_ivRemove I h1 h2 h5
  · exact qt_ivMove I h1 h2 h4 h5 h7
/-- all records of a log were tested -/
def qt_wf (lg : Nat → qt_R) (n : Nat) : Prop := ∀ k, k < n → qt_ok (qt_ab lg k) (lg k)
theorem qt_ivAb {lg : Nat → qt_R} : ∀ {n : Nat}, qt_wf lg n → n ≤ 1000 → qt_iv (qt_ab lg n) := by
  intro n
  induction n with
  | zero => intro _ _; exact qt_iv0
  | succ n ih =>
    intro h hn
    exact qt_ivAp (ih (fun k hk => h k (by omega)) (by omega)) (h n (by omega)) (by omega)
theorem qt_abC {lg lg' : Nat → qt_R} : ∀ {n : Nat}, (∀ k, k < n → lg k = lg' k) → qt_ab lg n = qt_ab lg' n := by
  intro n
  induction n with
  | zero => intro _; rfl
  | succ n ih =>
    intro h
    show qt_ap (qt_ab lg n) (lg n) n = qt_ap (qt_ab lg' n) (lg' n) n
    rw [ih (fun k hk => h k (by omega)), h n (by omega)]
theorem qt_wfC {lg lg' : Nat → qt_R} {n : Nat} (h : ∀ k, k < n → lg k = lg' k) (w : qt_wf lg n) : qt_wf lg' n := by
  intro k hk
  rw [← h k hk, ← qt_abC (fun j hj => h j (by omega))]
  exact w k hk
def qt_uR (f : Nat → qt_R) (k : Nat) (x : qt_R) : Nat → qt_R := fun j => if j = k then x else f j
theorem qt_uRs {f : Nat → qt_R} {k : Nat} {x : qt_R} : qt_uR f k x k = x := if_pos rfl
theorem qt_uRn {f : Nat → qt_R} {k j : Nat} {x : qt_R} (h : j ≠ k) : qt_uR f k x j = f j := if_neg h
theorem qt_abU {lg : Nat → qt_R} {n : Nat} {r : qt_R} : qt_ab (qt_uR lg n r) (n + 1) = qt_ap (qt_ab lg n) r n := by
  show qt_ap (qt_ab (qt_uR lg n r) n) (qt_uR lg n r n) n = _
  rw [qt_uRs, qt_abC (lg' := lg) (fun k hk => qt_uRn (by omega))]
theorem qt_wfU {lg : Nat → qt_R} {n : Nat} {r : qt_R} (w : qt_wf lg n) (h : qt_ok (qt_ab lg n) r) : qt_wf (qt_uR lg n r) (n + 1) := by
  intro k hk
  by_cases e : k = n
  · subst e
    rw [qt_uRs, qt_abC (lg' := lg) (fun j hj => qt_uRn (by omega))]; exact h
  · rw [qt_uRn e, qt_abC (lg' := lg) (fun j hj => qt_uRn (by omega))]; exact w k (by omega)
/-! ranks below 12 -/
def qt_ct (r : Nat → Nat) (x : Nat) : Nat → Nat
  | 0 => 0
  | n + 1 => qt_ct r x n + (if r n < x then 1 else 0)
theorem qt_ct_m (r : Nat → Nat) {x y : Nat} (h : x ≤ y) : ∀ n, qt_ct r x n ≤ qt_ct r y n := by
  intro n
  induction n with
  | zero => exact Nat.le_refl _
  | succ n ih =>
    show qt_ct r x n + _ ≤ qt_ct r y n + _
    split <;> split <;> omega
theorem qt_ct_l (r : Nat → Nat) {x y j : Nat} (h : x ≤ y) (h1 : ¬ r j < x) (h2 : r j < y) : ∀ n, j < n → qt_ct r x n < qt_ct r y n := by
  intro n
  induction n with
  | zero => intro h; omega
  | succ n ih =>
    intro hj
    have hm := qt_ct_m r h n
    show qt_ct r x n + _ < qt_ct r y n + _
    by_cases e : j = n
    · subst e; rw [if_neg h1, if_pos h2]; omega
    · have := ih (by omega)
      split <;> split <;> omega
theorem qt_ct_b (r : Nat → Nat) (x : Nat) : ∀ n, qt_ct r x n ≤ n := by
  intro n
  induction n with
  | zero => exact Nat.le_refl _
  | succ n ih =>
    show qt_ct r x n + _ ≤ n + 1
    split <;> omega
theorem qt_ct_s (r : Nat → Nat) {x j : Nat} (h1 : ¬ r j < x) : ∀ n, j < n → qt_ct r x n < n := by
  intro n
  induction n with
  | zero => intro h; omega
  | succ n ih =>
    intro hj
    have hb := qt_ct_b r x n
    show qt_ct r x n + _ < n + 1
    by_cases e : j = n
    · subst e; rw [if_neg h1]; omega
    · have := ih (by omega)
      split <;> omega
theorem qt_rank {so pl cl cw rl ro sp : Nat → Nat} (I : qt_iv (so, pl, cl, cw, rl, ro, sp)) : ∃ r, qt_tr so pl r ∧ ∀ i, i < 12 → r i < 12 := by
  obtain ⟨_, _, _, _, _, i6, ⟨r, i7⟩, _⟩ := I
  refine ⟨fun i => qt_ct r (r i) 12, ?_, ?_⟩
  · intro i g1 g2 g3
    have h := i7 i g1 g2 g3
    obtain ⟨p1, p2, _⟩ := i6 i g1 g2 g3
    have hp : qt_pa pl i < 12 := by unfold qt_pa; omega
    exact qt_ct_l r (j := qt_pa pl i) (by omega) (by omega) h 12 hp
  · intro i hi
    exact qt_ct_s r (j := i) (by omega) 12 hi
end
section
/-! real tables that agree with pure ones (F: stamps of blocks in no row, too) -/
def qt_ag (F : Prop) (t : qt_T) (aS aP aC aW aL aR aT : Nat → Int32) : Prop :=
  match t with
  | (so, pl, cl, cw, rl, ro, sp) =>
    (∀ i, i < 12 → aS i = nI (so i)) ∧ (∀ i, i < 12 → aP i = qt_m (pl i)) ∧ (∀ i, i < 12 → so i = 2 → aC i = qt_m (cl i))
      ∧ (∀ i, i < 12 → so i = 3 → aW i = nI (cw i)) ∧ (∀ i, i < 12 → aL i = nI (rl i))
      ∧ (∀ i k, i < 12 → k < rl i → aR (3 * i + k) = nI (ro (3 * i + k)))
      ∧ (∀ b, b < 16 → (F ∨ qt_in rl ro b) → aT b = nI (sp b))
theorem qt_inM {rl rl' ro : Nat → Nat} {b : Nat} (h : ∀ i, i < 12 → rl' i ≤ rl i) (z : qt_in rl' ro b) : qt_in rl ro b := by
  obtain ⟨i, k, hi, hk, e⟩ := z
  have := h i hi
  exact ⟨i, k, hi, by omega, e⟩
theorem qt_uL0 {rl : Nat → Nat} {a i : Nat} : qt_u rl a 0 i ≤ rl i := by
  by_cases h : i = a
  · subst h; rw [qt_us]; omega
  · rw [qt_un h]; omega
theorem qt_agMake {F : Prop} {so pl cl cw rl ro sp : Nat → Nat} {aS aP aC aW aW' aL aR aT : Nat → Int32} {e a b c k : Nat} {v w x : Int32}
    (h : qt_ag F (so, pl, cl, cw, rl, ro, sp) aS aP aC aW aL aR aT) (hv : v = nI (if c = 0 then 1 else 2)) (hw : w = nI b) (hx : x = qt_m c)
    (hW : ∀ i, i ≠ a → aW' i = aW i) :
    qt_ag F (qt_ap (so, pl, cl, cw, rl, ro, sp) (e, 0, a, b, c) k) (upd aS a v) (upd aP a w) (upd aC a x) aW' (upd aL a 0) aR aT := by
  obtain ⟨g1, g2, g3, g4, g5, g6, g7⟩ := h
  refine ⟨?_, ?_, ?_, ?_, ?_, ?_, ?_⟩
  · intro i hi
    by_cases h : i = a
    · subst h; rw [pk_us, qt_us, hv]
    · rw [pk_un h, qt_un h]; exact g1 i hi
  · intro i hi
    by_cases h : i = a
    · subst h; rw [pk_us, qt_us, hw, qt_ms]
    · rw [pk_un h, qt_un h]; exact g2 i hi
  · intro i hi
    by_cases h : i = a
    · subst h; intro _; rw [pk_us, qt_us, hx]
    · rw [pk_un h, qt_un h, qt_un h]; exact g3 i hi
  · intro i hi
    by_cases h : i = a
    · subst h; intro z; rw [qt_us] at z; split at z <;> omega
    · rw [qt_un h, qt_un h, hW i h]; exact g4 i hi
  · intro i hi
    by_cases h : i = a
    · subst h; rw [pk_us, qt_us]; rfl
    · rw [pk_un h, qt_un h]; exact g5 i hi
  · intro i k hi hk
    exact g6 i k hi (Nat.lt_of_lt_of_le hk qt_uL0)
  · intro b hb hF
    exact g7 b hb (hF.imp id (qt_inM (fun i _ => qt_uL0)))
theorem qt_agBlock {F : Prop} {so pl cl cw rl ro sp : Nat → Nat} {aS aP aC aW aL aR aT : Nat → Int32} {e a b c k : Nat} {v w x : Int32}
    (h : qt_ag F (so, pl, cl, cw, rl, ro, sp) aS aP aC aW aL aR aT) (hv : v = nI (rl a + 1)) (hw : w = nI b) (hx : x = nI (2048 * e + k))
    (h3 : ∀ i, i < 12 → rl i ≤ 3) (ha : rl a < 3) :
    qt_ag F (qt_ap (so, pl, cl, cw, rl, ro, sp) (e, 1, a, b, c) k) aS aP aC aW (upd aL a v) (upd aR (3 * a + rl a) w) (upd aT b x) := by
  obtain ⟨g1, g2, g3, g4, g5, g6, g7⟩ := h
  refine ⟨g1, g2, g3, g4, ?_, ?_, ?_⟩
  · intro i hi
    by_cases h : i = a
    · subst h; rw [pk_us, qt_us, hv]
    · rw [pk_un h, qt_un h]; exact g5 i hi
  · intro i k hi hk
    by_cases h : i = a
    · subst h
      rw [qt_us] at hk
      by_cases h' : k = rl i
      · subst h'; rw [pk_us, qt_us, hw]
      · rw [pk_un (by omega), qt_un (by omega)]; exact g6 i k hi (by omega)
    · rw [qt_un h] at hk
      have := h3 i hi
      rw [pk_un (by omega), qt_un (by omega)]; exact g6 i k hi hk
  · intro b' hb hF
    by_cases h : b' = b
    · subst h; rw [pk_us, qt_us, hx]
    · rw [pk_un h, qt_un h]
      refine g7 b' hb (hF.imp id ?_)
      rintro ⟨i, k, hi, hk, hr⟩
      by_cases hi' : i = a
      · subst hi'
        rw [qt_us] at hk
        by_cases h' : k = rl i
        · subst h'; rw [qt_us] at hr; exact absurd hr.symm h
        · rw [qt_un (by omega)] at hr; exact ⟨i, k, hi, by omega, hr⟩
      · rw [qt_un hi'] at hk
        have := h3 i hi
        rw [qt_un (by omega)] at hr; exact ⟨i, k, hi, hk, hr⟩
theorem qt_agStamp {F : Prop} {so pl cl cw rl ro sp : Nat → Nat} {aS aP aC aW aL aR aT : Nat → Int32} {e a b c k : Nat} {x : Int32}
    (h : qt_ag F (so, pl, cl, cw, rl, ro, sp) aS aP aC aW aL aR aT) (hx : x = nI (2048 * e + k)) :
    qt_ag F (qt_ap (so, pl, cl, cw, rl, ro, sp) (e, 2, a, b, c) k) aS aP aC aW aL aR (upd aT a x) := by
  obtain ⟨g1, g2, g3, g4, g5, g6, g7⟩ := h
  refine ⟨g1, g2, g3, g4, g5, g6, ?_⟩
  intro b' hb hF
  by_cases h : b' = a
  · subst h; rw [pk_us, qt_us, hx]
  · rw [pk_un h, qt_un h]; exact g7 b' hb hF
theorem qt_agClose {F : Prop} {so pl cl cw rl ro sp : Nat → Nat} {aS aP aC aW aL aL' aR aT : Nat → Int32} {e a b c k : Nat} {x : Int32}
    (h : qt_ag F (so, pl, cl, cw, rl, ro, sp) aS aP aC aW aL aR aT) (hx : x = nI b)
    (hL : ∀ i, i < 12 → aL' i = nI ((if b = 0 then qt_u rl a (rl a - 1) else rl) i)) :
    qt_ag F (qt_ap (so, pl, cl, cw, rl, ro, sp) (e, 3, a, b, c) k) (upd aS a 3) aP aC (upd aW a x) aL' aR aT := by
  obtain ⟨g1, g2, g3, g4, g5, g6, g7⟩ := h
  refine ⟨?_, g2, ?_, ?_, hL, ?_, ?_⟩
  · intro i hi
    by_cases h : i = a
    · subst h; rw [pk_us, qt_us]; rfl
    · rw [pk_un h, qt_un h]; exact g1 i hi
  · intro i hi
    by_cases h : i = a
    · subst h; intro z; rw [qt_us] at z; omega
    · rw [qt_un h]; exact g3 i hi
  · intro i hi
    by_cases h : i = a
    · subst h; intro _; rw [pk_us, qt_us, hx]
    · rw [qt_un h, qt_un h, pk_un h]; exact g4 i hi
  · intro i k hi hk
    exact g6 i k hi (Nat.lt_of_lt_of_le hk qt_rlC)
  · intro b hb hF
    exact g7 b hb (hF.imp id (qt_inM (fun i _ => qt_rlC)))
theorem qt_agRemove {F : Prop} {so pl cl cw rl ro sp : Nat → Nat} {aS aP aC aW aL aR aT : Nat → Int32} {e a b c k : Nat}
    (h : qt_ag F (so, pl, cl, cw, rl, ro, sp) aS aP aC aW aL aR aT) :
    qt_ag F (qt_ap (so, pl, cl, cw, rl, ro, sp) (e, 4, a, b, c) k) (upd aS a 0) aP aC aW (upd aL a 0) aR aT := by
  obtain ⟨g1, g2, g3, g4, g5, g6, g7⟩ := h
  refine ⟨?_, g2, ?_, ?_, ?_, ?_, ?_⟩
  · intro i hi
    by_cases h : i = a
    · subst h; rw [pk_us, qt_us]; rfl
    · rw [pk_un h, qt_un h]; exact g1 i hi
  · intro i hi
    by_cases h : i = a
    · subst h; intro z; rw [qt_us] at z; omega
    · rw [qt_un h]; exact g3 i hi
  · intro i hi
    by_cases h : i = a
    · subst h; intro z; rw [qt_us] at z; omega
    · rw [qt_un h]; exact g4 i hi
  · intro i hi
    by_cases h : i = a
    · subst h; rw [pk_us, qt_us]; rfl
    · rw [pk_un h, qt_un h]; exact g5 i hi
  · intro i k hi hk
    exact g6 i k hi (Nat.lt_of_lt_of_le hk qt_uL0)
  · intro b hb hF
    exact g7 b hb (hF.imp id (qt_inM (fun i _ => qt_uL0)))
theorem qt_agMove {F : Prop} {so pl cl cw rl ro sp : Nat → Nat} {aS aP aC aW aL aR aT : Nat → Int32} {e a b c k : Nat} {w : Int32}
    (h : qt_ag F (so, pl, cl, cw, rl, ro, sp) aS aP aC aW aL aR aT) (hw : w = nI b) :
    qt_ag F (qt_ap (so, pl, cl, cw, rl, ro, sp) (e, 5, a, b, c) k) aS (upd aP a w) aC aW aL aR aT := by
  obtain ⟨g1, g2, g3, g4, g5, g6, g7⟩ := h
  refine ⟨g1, ?_, g3, g4, g5, g6, g7⟩
  intro i hi
  by_cases h : i = a
  · subst h; rw [pk_us, qt_us, hw, qt_ms]
  · rw [pk_un h, qt_un h]; exact g2 i hi
end
section
/-! searches, masks, data nodes: pure -/
def ls_f (p : Nat → Prop) (N m : Nat) : Prop := m ≤ N ∧ (∀ i, i < m → ¬ p i) ∧ (m < N → p m)
theorem ls_ex (p : Nat → Prop) : ∀ N, ∃ m, ls_f p N m := by
  intro N
  induction N with
  | zero => exact ⟨0, Nat.le_refl _, fun i hi => by omega, fun h => by omega⟩
  | succ N ih =>
    obtain ⟨m, h1, h2, h3⟩ := ih
    by_cases hm : m < N
    · exact ⟨m, by omega, h2, fun _ => h3 hm⟩
    · have e : m = N := by omega
      subst e
      by_cases hp : p m
      · exact ⟨m, by omega, h2, fun _ => hp⟩
      · refine ⟨m + 1, by omega, ?_, fun h => by omega⟩
        intro i hi
        by_cases hi' : i = m
        · subst hi'; exact hp
        · exact h2 i (by omega)
theorem ls_c {p q : Nat → Prop} {N m : Nat} (h : ∀ i, i < N → (p i ↔ q i)) (hm : ls_f p N m) : ls_f q N m := by
  obtain ⟨h1, h2, h3⟩ := hm
  exact ⟨h1, fun i hi z => h2 i hi ((h i (by omega)).mpr z), fun hi => (h m hi).mp (h3 hi)⟩
theorem ls_some {p : Nat → Prop} {N m i : Nat} (hm : ls_f p N m) (hi : i < N) (hp : p i) : m < N := by
  obtain ⟨h1, h2, h3⟩ := hm
  by_cases h : i < m
  · exact absurd hp (h2 i h)
  · omega
theorem ls_none {p : Nat → Prop} {N m : Nat} (hm : ls_f p N m) (h : ∀ i, i < N → ¬ p i) : m = N := by
  obtain ⟨h1, h2, h3⟩ := hm
  by_cases hl : m < N
  · exact absurd (h3 hl) (h m hl)
  · omega
def ls_v (N m : Nat) : Int32 := if m < N then nI m else -1
/-! masks of five -/
def rd_mk (f : Nat → Bool) : Nat → Nat
  | 0 => 0
  | n + 1 => rd_mk f n + (if f n then 2 ^ n else 0)
def rd_m5 (a b c d e : Bool) : Nat := 0 + (if a then 2 ^ 0 else 0) + (if b then 2 ^ 1 else 0) + (if c then 2 ^ 2 else 0) + (if d then 2 ^ 3 else 0) + (if e then 2 ^ 4 else 0)
theorem rd_mk5 (f : Nat → Bool) : rd_mk f 5 = rd_m5 (f 0) (f 1) (f 2) (f 3) (f 4) := rfl
theorem rd_mkC {f g : Nat → Bool} : ∀ {n : Nat}, (∀ d, d < n → f d = g d) → rd_mk f n = rd_mk g n := by
  intro n
  induction n with
  | zero => intro _; rfl
  | succ n ih =>
    intro h
    show rd_mk f n + _ = rd_mk g n + _
    rw [ih (fun d hd => h d (by omega)), h n (by omega)]
theorem rd_mkL (f : Nat → Bool) : ∀ n, rd_mk f n < 2 ^ n := by
  intro n
  induction n with
  | zero => exact Nat.zero_lt_one
  | succ n ih =>
    show rd_mk f n + _ < 2 ^ (n + 1)
    rw [Nat.pow_succ]
    split <;> omega
theorem rd_mk0 : rd_mk (fun _ => false) 5 = 0 := by decide
theorem rd_mk1 : rd_mk (fun _ => true) 5 = 31 := by decide
theorem rd_bv5 : ∀ a b c d e : Bool, (nI (rd_m5 a b c d e) >>> (nI 0 &&& 31) &&& 1 = (if a then 1 else 0)) ∧ (nI (rd_m5 a b c d e) >>> (nI 1 &&& 31) &&& 1 = (if b then 1 else 0)) ∧ (nI (rd_m5 a b c d e) >>> (nI 2 &&& 31) &&& 1 = (if c then 1 else 0)) ∧ (nI (rd_m5 a b c d e) >>> (nI 3 &&& 31) &&& 1 = (if d then 1 else 0)) ∧ (nI (rd_m5 a b c d e) >>> (nI 4 &&& 31) &&& 1 = (if e then 1 else 0)) := by decide +kernel
theorem rd_5 {P : Nat → Prop} (h0 : P 0) (h1 : P 1) (h2 : P 2) (h3 : P 3) (h4 : P 4) : ∀ d, d < 5 → P d := by
  intro d hd
  match d, hd with
  | 0, _ => exact h0
  | 1, _ => exact h1
  | 2, _ => exact h2
  | 3, _ => exact h3
  | 4, _ => exact h4
theorem rd_bv (f : Nat → Bool) : ∀ d, d < 5 → nI (rd_mk f 5) >>> (nI d &&& 31) &&& 1 = (if f d then 1 else 0) := by
  rw [rd_mk5]
  have h := rd_bv5 (f 0) (f 1) (f 2) (f 3) (f 4)
  exact rd_5 h.1 h.2.1 h.2.2.1 h.2.2.2.1 h.2.2.2.2
theorem rd_b1 (f : Nat → Bool) {d : Nat} (hd : d < 5) : nI (rd_mk f 5) >>> (nI d &&& 31) &&& 1 = 1 ↔ f d = true := by
  rw [rd_bv f d hd]
  cases f d <;> decide
theorem rd_b0 (f : Nat → Bool) {d : Nat} (hd : d < 5) : nI (rd_mk f 5) >>> (nI d &&& 31) &&& 1 = 0 ↔ f d = false := by
  rw [rd_bv f d hd]
  cases f d <;> decide
theorem rd_orN : ∀ d, d < 5 → ∀ m, m < 32 → m < 2 ^ d → nI m ||| ((1 : Int32) <<< (nI d &&& 31)) = nI (m + 2 ^ d) := by decide +kernel
theorem rd_or5 : ∀ a b c d e : Bool, ∀ k, k < 5 → nI (rd_m5 a b c d e) ||| ((1 : Int32) <<< (nI k &&& 31)) = nI (rd_m5 (a || 0 == k) (b || 1 == k) (c || 2 == k) (d || 3 == k) (e || 4 == k)) := by decide +kernel
theorem rd_or (f : Nat → Bool) {d : Nat} (hd : d < 5) : nI (rd_mk f 5) ||| ((1 : Int32) <<< (nI d &&& 31)) = nI (rd_mk (fun x => f x || x == d) 5) := by
  rw [rd_mk5, rd_mk5]; exact rd_or5 _ _ _ _ _ d hd
theorem rd_an5 : ∀ a b c d e : Bool, ∀ k, k < 5 → nI (rd_m5 a b c d e) &&& (((1 : Int32) <<< (nI k &&& 31)) ^^^ (-1)) = nI (rd_m5 (a && !(0 == k)) (b && !(1 == k)) (c && !(2 == k)) (d && !(3 == k)) (e && !(4 == k))) := by decide +kernel
theorem rd_an (f : Nat → Bool) {d : Nat} (hd : d < 5) : nI (rd_mk f 5) &&& (((1 : Int32) <<< (nI d &&& 31)) ^^^ (-1)) = nI (rd_mk (fun x => f x && !(x == d)) 5) := by
  rw [rd_mk5, rd_mk5]; exact rd_an5 _ _ _ _ _ d hd
theorem rd_co5 : ∀ a b c d e : Bool, 31 &&& (nI (rd_m5 a b c d e) ^^^ (-1)) = nI (rd_m5 (!a) (!b) (!c) (!d) (!e)) := by decide +kernel
theorem rd_co (f : Nat → Bool) : 31 &&& (nI (rd_mk f 5) ^^^ (-1)) = nI (rd_mk (fun x => !f x) 5) := by
  rw [rd_mk5, rd_mk5]; exact rd_co5 _ _ _ _ _
theorem rd_z5 : ∀ a b c d e : Bool, nI (rd_m5 a b c d e) = 0 ↔ (a = false ∧ b = false ∧ c = false ∧ d = false ∧ e = false) := by decide +kernel
theorem rd_z (f : Nat → Bool) : nI (rd_mk f 5) = 0 ↔ ∀ d, d < 5 → f d = false := by
  rw [rd_mk5, rd_z5]
  exact ⟨fun h => rd_5 h.1 h.2.1 h.2.2.1 h.2.2.2.1 h.2.2.2.2, fun h => ⟨h 0 (by decide), h 1 (by decide), h 2 (by decide), h 3 (by decide), h 4 (by decide)⟩⟩
/-- how many -/
def rd_cn (f : Nat → Bool) : Nat → Nat
  | 0 => 0
  | n + 1 => rd_cn f n + (if f n then 1 else 0)
theorem rd_cnL (f : Nat → Bool) : ∀ n, rd_cn f n ≤ n := by
  intro n
  induction n with
  | zero => exact Nat.le_refl _
  | succ n ih =>
    show rd_cn f n + _ ≤ n + 1
    split <;> omega
theorem rd_cnC {f g : Nat → Bool} : ∀ {n : Nat}, (∀ d, d < n → f d = g d) → rd_cn f n = rd_cn g n := by
  intro n
  induction n with
  | zero => intro _; rfl
  | succ n ih =>
    intro h
    show rd_cn f n + _ = rd_cn g n + _
    rw [ih (fun d hd => h d (by omega)), h n (by omega)]
theorem rd_cn0 {f : Nat → Bool} : ∀ {n : Nat}, rd_cn f n = 0 → ∀ d, d < n → f d = false := by
  intro n
  induction n with
  | zero => intro _ d hd; omega
  | succ n ih =>
    intro h d hd
    have h' : rd_cn f n + (if f n then 1 else 0) = 0 := h
    by_cases e : d = n
    · subst e
      cases hf : f d with
      | false => rfl
      | true => rw [hf] at h'; simp at h'
    · exact ih (by omega) d (by omega)
theorem rd_cnP {f : Nat → Bool} : ∀ {n : Nat}, 0 < rd_cn f n → ∃ d, d < n ∧ f d = true := by
  intro n
  induction n with
  | zero => intro h; exact absurd h (Nat.not_lt_zero _)
  | succ n ih =>
    intro h
    have h' : 0 < rd_cn f n + (if f n then 1 else 0) := h
    cases hf : f n with
    | true => exact ⟨n, by omega, hf⟩
    | false =>
      rw [hf] at h'
      obtain ⟨d, hd, e⟩ := ih (by simpa using h')
      exact ⟨d, by omega, e⟩
/-! the greatest stamp (and 1) of replicas on nodes that are up, good ones -/
def rd_gm (nu : Nat → Bool) (st : Nat → Nat) (b : Nat) : Nat → Nat
  | 0 => 0
  | n + 1 => if nu n = true ∧ rd_gm nu st b n < st (16 * n + b) then st (16 * n + b) else rd_gm nu st b n
theorem rd_gmU {nu : Nat → Bool} {st : Nat → Nat} {b : Nat} : ∀ {n d : Nat}, d < n → nu d = true → st (16 * d + b) ≤ rd_gm nu st b n := by
  intro n
  induction n with
  | zero => intro d h; omega
  | succ n ih =>
    intro d hd hu
    show _ ≤ if nu n = true ∧ rd_gm nu st b n < st (16 * n + b) then st (16 * n + b) else rd_gm nu st b n
    by_cases e : d = n
    · subst e
      split
      · exact Nat.le_refl _
      · rename_i h
        have : ¬ rd_gm nu st b d < st (16 * d + b) := fun z => h ⟨hu, z⟩
        omega
    · have := ih (d := d) (by omega) hu
      split <;> omega
theorem rd_gmA {nu : Nat → Bool} {st : Nat → Nat} {b : Nat} : ∀ {n : Nat}, 0 < rd_gm nu st b n → ∃ d, d < n ∧ nu d = true ∧ st (16 * d + b) = rd_gm nu st b n := by
  intro n
  induction n with
  | zero => intro h; exact absurd h (Nat.not_lt_zero _)
  | succ n ih =>
    show 0 < (if nu n = true ∧ rd_gm nu st b n < st (16 * n + b) then st (16 * n + b) else rd_gm nu st b n) → ∃ d, d < n + 1 ∧ nu d = true ∧ st (16 * d + b) = (if nu n = true ∧ rd_gm nu st b n < st (16 * n + b) then st (16 * n + b) else rd_gm nu st b n)
    split
    · rename_i h
      intro _
      exact ⟨n, by omega, h.1, rfl⟩
    · intro h
      obtain ⟨d, h1, h2, h3⟩ := ih h
      exact ⟨d, by omega, h2, h3⟩
theorem rd_gmC {nu : Nat → Bool} {st st' : Nat → Nat} {b : Nat} : ∀ {n : Nat}, (∀ d, d < n → st (16 * d + b) = st' (16 * d + b)) → rd_gm nu st b n = rd_gm nu st' b n := by
  intro n
  induction n with
  | zero => intro _; rfl
  | succ n ih =>
    intro h
    show (if nu n = true ∧ rd_gm nu st b n < st (16 * n + b) then st (16 * n + b) else rd_gm nu st b n) = (if nu n = true ∧ rd_gm nu st' b n < st' (16 * n + b) then st' (16 * n + b) else rd_gm nu st' b n)
    rw [ih (fun d hd => h d (by omega)), h n (by omega)]
theorem rd_gmB {nu : Nat → Bool} {st : Nat → Nat} {b B : Nat} (hb : b < 16) (h : ∀ c, c < 80 → st c ≤ B) : ∀ {n : Nat}, n ≤ 5 → rd_gm nu st b n ≤ B := by
  intro n
  induction n with
  | zero => intro _; exact Nat.zero_le _
  | succ n ih =>
    intro hn
    show (if nu n = true ∧ rd_gm nu st b n < st (16 * n + b) then st (16 * n + b) else rd_gm nu st b n) ≤ B
    have := ih (by omega)
    have := h (16 * n + b) (by omega)
    split <;> omega
def rd_G (nu : Nat → Bool) (st : Nat → Nat) (b s : Nat) : Nat := if s < rd_gm nu st b 5 then rd_gm nu st b 5 else 0
def rd_g (nu : Nat → Bool) (st : Nat → Nat) (b s d : Nat) : Bool := decide (0 < rd_G nu st b s ∧ nu d = true ∧ st (16 * d + b) = rd_G nu st b s)
theorem rd_gI {nu : Nat → Bool} {st : Nat → Nat} {b s d : Nat} : rd_g nu st b s d = true ↔ 0 < rd_G nu st b s ∧ nu d = true ∧ st (16 * d + b) = rd_G nu st b s := by
  unfold rd_g; exact decide_eq_true_iff
theorem rd_gX {nu : Nat → Bool} {st : Nat → Nat} {b s : Nat} (h : 0 < rd_G nu st b s) : ∃ d, d < 5 ∧ rd_g nu st b s d = true := by
  have h' := h
  unfold rd_G at h'
  split at h'
  · obtain ⟨d, h1, h2, h3⟩ := rd_gmA h'
    refine ⟨d, h1, rd_gI.mpr ⟨h, h2, ?_⟩⟩
    rw [h3]; unfold rd_G; rename_i hs; rw [if_pos hs]
  · omega
theorem rd_gC {nu : Nat → Bool} {st st' : Nat → Nat} {b s d : Nat} (h : ∀ d, d < 5 → st (16 * d + b) = st' (16 * d + b)) (hd : d < 5) : rd_g nu st b s d = rd_g nu st' b s d := by
  unfold rd_g rd_G
  rw [rd_gmC h, h d hd]
/-- a stamp above all others: those that got it are the good ones -/
theorem rd_new {nu ch : Nat → Bool} {st st' : Nat → Nat} {b s : Nat} (hb : b < 16) (h : ∀ c, c < 80 → st c ≤ s) (hu : ∀ d, d < 5 → ch d = true → nu d = true) (hx : ∃ d, d < 5 ∧ ch d = true)
    (hs : ∀ d, d < 5 → st' (16 * d + b) = if ch d = true then s + 1 else st (16 * d + b)) : ∀ d, d < 5 → rd_g nu st' b s d = ch d := by
  obtain ⟨e, he, hc⟩ := hx
  have h1 : s + 1 ≤ rd_gm nu st' b 5 := by
    have := rd_gmU (nu := nu) (st := st') (b := b) he (hu e he hc)
    rw [hs e he, if_pos hc] at this
    exact this
  have h2 : rd_gm nu st' b 5 = s + 1 := by
    obtain ⟨d, hd, _, e⟩ := rd_gmA (nu := nu) (st := st') (b := b) (n := 5) (by omega)
    rw [hs d hd] at e
    have := h (16 * d + b) (by omega)
    split at e <;> omega
  have h3 : rd_G nu st' b s = s + 1 := by unfold rd_G; rw [h2, if_pos (by omega)]
  intro d hd
  have h4 := h (16 * d + b) (by omega)
  cases hc : ch d with
  | true => exact rd_gI.mpr ⟨by omega, hu d hd hc, by rw [hs d hd, if_pos hc, h3]⟩
  | false =>
    cases hg : rd_g nu st' b s d with
    | false => rfl
    | true =>
      obtain ⟨_, _, g⟩ := rd_gI.mp hg
      rw [hs d hd, hc, h3] at g
      simp at g
      omega
def rd_fw (f : Nat → Bool) (un : Nat → Nat) (b : Nat) : Nat → Nat
  | 0 => 0
  | n + 1 => if f n = true ∧ (rd_fw f un b n = 0 ∨ un (16 * n + b) + 1 < rd_fw f un b n) then un (16 * n + b) + 1 else rd_fw f un b n
def rd_mo (f : Nat → Bool) (un : Nat → Nat) (b : Nat) : Nat → Nat
  | 0 => 0
  | n + 1 => if f n = true ∧ rd_mo f un b n < un (16 * n + b) + 1 then un (16 * n + b) + 1 else rd_mo f un b n
theorem rd_fwS (f : Nat → Bool) (un : Nat → Nat) (b n : Nat) : rd_fw f un b (n + 1) = if f n = true ∧ (rd_fw f un b n = 0 ∨ un (16 * n + b) + 1 < rd_fw f un b n) then un (16 * n + b) + 1 else rd_fw f un b n := rfl
theorem rd_moS (f : Nat → Bool) (un : Nat → Nat) (b n : Nat) : rd_mo f un b (n + 1) = if f n = true ∧ rd_mo f un b n < un (16 * n + b) + 1 then un (16 * n + b) + 1 else rd_mo f un b n := rfl
theorem rd_fwB {f : Nat → Bool} {un : Nat → Nat} {b : Nat} (hb : b < 16) (h : ∀ c, c < 80 → un c ≤ 8) : ∀ {n : Nat}, n ≤ 5 → rd_fw f un b n ≤ 9 := by
  intro n
  induction n with
  | zero => intro _; exact Nat.zero_le _
  | succ n ih =>
    intro hn
    have := ih (by omega)
    have := h (16 * n + b) (by omega)
    rw [rd_fwS]
    split <;> omega
theorem rd_moB {f : Nat → Bool} {un : Nat → Nat} {b : Nat} (hb : b < 16) (h : ∀ c, c < 80 → un c ≤ 8) : ∀ {n : Nat}, n ≤ 5 → rd_mo f un b n ≤ 9 := by
  intro n
  induction n with
  | zero => intro _; exact Nat.zero_le _
  | succ n ih =>
    intro hn
    have := ih (by omega)
    have := h (16 * n + b) (by omega)
    rw [rd_moS]
    split <;> omega
theorem rd_fwL {f : Nat → Bool} {un : Nat → Nat} {b : Nat} : ∀ {n d : Nat}, d < n → f d = true → 0 < rd_fw f un b n ∧ rd_fw f un b n ≤ un (16 * d + b) + 1 := by
  intro n
  induction n with
  | zero => intro d h; omega
  | succ n ih =>
    intro d hd hf
    rw [rd_fwS]
    by_cases e : d = n
    · subst e
      by_cases z : rd_fw f un b d = 0 ∨ un (16 * d + b) + 1 < rd_fw f un b d
      · rw [if_pos ⟨hf, z⟩]; omega
      · rw [if_neg (fun y => z y.2)]; omega
    · have := ih (d := d) (by omega) hf
      split <;> omega
theorem rd_fw0 {f : Nat → Bool} {un : Nat → Nat} {b : Nat} : ∀ {n : Nat}, (∀ d, d < n → f d = false) → rd_fw f un b n = 0 := by
  intro n
  induction n with
  | zero => intro _; rfl
  | succ n ih =>
    intro h
    rw [rd_fwS, if_neg (by rw [h n (by omega)]; simp), ih (fun d hd => h d (by omega))]
theorem rd_fwC {f g : Nat → Bool} {un un' : Nat → Nat} {b : Nat} : ∀ {n : Nat}, (∀ d, d < n → f d = g d) → (∀ d, d < n → f d = true → un (16 * d + b) = un' (16 * d + b)) → rd_fw f un b n = rd_fw g un' b n := by
  intro n
  induction n with
  | zero => intro _ _; rfl
  | succ n ih =>
    intro h h'
    rw [rd_fwS, rd_fwS, ih (fun d hd => h d (by omega)) (fun d hd => h' d (by omega)), ← h n (by omega)]
    cases hf : f n with
    | false => simp
    | true => rw [h' n (by omega) hf]
/-! loads, the least loaded -/
def rd_ld (st : Nat → Nat) (d : Nat) : Nat → Nat
  | 0 => 0
  | n + 1 => rd_ld st d n + (if st (16 * d + n) = 0 then 0 else 1)
theorem rd_ldB (st : Nat → Nat) (d : Nat) : ∀ n, rd_ld st d n ≤ n := by
  intro n
  induction n with
  | zero => exact Nat.le_refl _
  | succ n ih =>
    show rd_ld st d n + _ ≤ n + 1
    split <;> omega
theorem rd_ldC {st st' : Nat → Nat} {d : Nat} : ∀ {n : Nat}, (∀ b, b < n → st (16 * d + b) = st' (16 * d + b)) → rd_ld st d n = rd_ld st' d n := by
  intro n
  induction n with
  | zero => intro _; rfl
  | succ n ih =>
    intro h
    show rd_ld st d n + _ = rd_ld st' d n + _
    rw [ih (fun b hb => h b (by omega)), h n (by omega)]
def rd_il (nu : Nat → Bool) (st : Nat → Nat) (ok : Nat → Bool) : Nat → Nat
  | 0 => 0
  | n + 1 => if ok n = true ∧ nu n = true ∧ (rd_il nu st ok n = 0 ∨ rd_ld st n 16 < rd_ld st (rd_il nu st ok n - 1) 16) then n + 1 else rd_il nu st ok n
theorem rd_ilS (nu : Nat → Bool) (st : Nat → Nat) (ok : Nat → Bool) (n : Nat) : rd_il nu st ok (n + 1) = if ok n = true ∧ nu n = true ∧ (rd_il nu st ok n = 0 ∨ rd_ld st n 16 < rd_ld st (rd_il nu st ok n - 1) 16) then n + 1 else rd_il nu st ok n := rfl
theorem rd_ilP {nu : Nat → Bool} {st : Nat → Nat} {ok : Nat → Bool} : ∀ {n : Nat}, rd_il nu st ok n = 0 ∨ (rd_il nu st ok n ≤ n ∧ ok (rd_il nu st ok n - 1) = true ∧ nu (rd_il nu st ok n - 1) = true) := by
  intro n
  induction n with
  | zero => exact Or.inl rfl
  | succ n ih =>
    rw [rd_ilS]
    split
    · rename_i h
      exact Or.inr ⟨Nat.le_refl _, h.1, h.2.1⟩
    · rcases ih with ih | ih
      · exact Or.inl ih
      · exact Or.inr ⟨by omega, ih.2⟩
theorem rd_il0 {nu : Nat → Bool} {st : Nat → Nat} {ok : Nat → Bool} : ∀ {n d : Nat}, d < n → ok d = true → nu d = true → rd_il nu st ok n ≠ 0 := by
  intro n
  induction n with
  | zero => intro d h; omega
  | succ n ih =>
    intro d hd h1 h2
    rw [rd_ilS]
    by_cases e : d = n
    · subst e
      split
      · omega
      · rename_i h
        intro z
        exact h ⟨h1, h2, Or.inl z⟩
    · have := ih (d := d) (by omega) h1 h2
      split <;> omega
theorem rd_ilC {nu : Nat → Bool} {st st' : Nat → Nat} {ok ok' : Nat → Bool} : ∀ {n : Nat}, (∀ d, d < n → ok d = ok' d) → (∀ d, d < n → ok d = true → rd_ld st d 16 = rd_ld st' d 16) → rd_il nu st ok n = rd_il nu st' ok' n := by
  intro n
  induction n with
  | zero => intro _ _; rfl
  | succ n ih =>
    intro h h'
    have e := ih (fun d hd => h d (by omega)) (fun d hd => h' d (by omega))
    rw [rd_ilS, rd_ilS, ← e, ← h n (by omega)]
    cases hf : ok n with
    | false => simp
    | true =>
      rw [h' n (by omega) hf]
      rcases rd_ilP (nu := nu) (st := st) (ok := ok) (n := n) with z | ⟨z1, z2, z3⟩
      · rw [z]
        simp
      · by_cases z : rd_il nu st ok n = 0
        · rw [z]; simp
        · rw [h' (rd_il nu st ok n - 1) (by omega) z2]
/-- replicas of b on the nodes of f get x -/
def rd_set (x : Nat) (f : Nat → Bool) (b : Nat) (g : Nat → Nat) : Nat → Nat := fun c => if c % 16 = b ∧ f (c / 16) = true then x else g c
theorem rd_setA {x : Nat} {f : Nat → Bool} {b : Nat} {g : Nat → Nat} {d : Nat} (hb : b < 16) : rd_set x f b g (16 * d + b) = if f d = true then x else g (16 * d + b) := by
  unfold rd_set
  rw [show (16 * d + b) % 16 = b by omega, show (16 * d + b) / 16 = d by omega]
  simp
theorem rd_setN {x : Nat} {f : Nat → Bool} {b b' : Nat} {g : Nat → Nat} {d : Nat} (hb : b' < 16) (h : b' ≠ b) : rd_set x f b g (16 * d + b') = g (16 * d + b') := by
  unfold rd_set
  rw [show (16 * d + b') % 16 = b' by omega]
  simp [h]
theorem rd_setS {x : Nat} {f : Nat → Bool} {b : Nat} {g : Nat → Nat} {d c : Nat} (hb : b < 16) : rd_set x (fun y => f y || y == d) b g c = if c = 16 * d + b then x else rd_set x f b g c := by
  unfold rd_set
  by_cases h : c = 16 * d + b
  · subst h
    rw [show (16 * d + b) % 16 = b by omega, show (16 * d + b) / 16 = d by omega]
    simp
  · rw [if_neg h]
    by_cases h1 : c % 16 = b
    · have h2 : c / 16 ≠ d := by omega
      simp [h1, h2]
    · simp [h1]
theorem rd_setC {x : Nat} {f f' : Nat → Bool} {b : Nat} {g : Nat → Nat} {c : Nat} (hc : c < 80) (h : ∀ d, d < 5 → f d = f' d) : rd_set x f b g c = rd_set x f' b g c := by
  unfold rd_set
  rw [h (c / 16) (by omega)]
theorem rd_set0 {x : Nat} {b : Nat} {g : Nat → Nat} {c : Nat} : rd_set x (fun _ => false) b g c = g c := by
  unfold rd_set
  simp
theorem rd_setB {x B : Nat} {f : Nat → Bool} {b : Nat} {g : Nat → Nat} {c : Nat} (hx : x ≤ B) (h : g c ≤ B) : rd_set x f b g c ≤ B := by
  unfold rd_set
  split <;> omega
/-- the nodes that get a new block -/
def rd_ch (nu : Nat → Bool) (st : Nat → Nat) : Nat → Nat → Bool
  | 0 => fun _ => false
  | n + 1 => fun x => rd_ch nu st n x || (rd_il nu st (fun y => !rd_ch nu st n y) 5 == x + 1)
theorem rd_chU {nu : Nat → Bool} {st : Nat → Nat} : ∀ {n d : Nat}, rd_ch nu st n d = true → nu d = true := by
  intro n
  induction n with
  | zero => intro d h; exact absurd h (by simp [rd_ch])
  | succ n ih =>
    intro d h
    have h' : (rd_ch nu st n d || (rd_il nu st (fun y => !rd_ch nu st n y) 5 == d + 1)) = true := h
    rw [Bool.or_eq_true] at h'
    rcases h' with h' | h'
    · exact ih h'
    · have e : rd_il nu st (fun y => !rd_ch nu st n y) 5 = d + 1 := by simpa using h'
      rcases rd_ilP (nu := nu) (st := st) (ok := fun y => !rd_ch nu st n y) (n := 5) with z | ⟨_, _, z⟩
      · omega
      · rw [e] at z; exact z
end
section
/-! a record as one long; numbers that may be out of range; booleans -/
def qt_pk (r : qt_R) : Nat := r.1 * 1048576 + r.2.2.2.2 * 65536 + r.2.2.2.1 * 256 + r.2.2.1 * 8 + r.2.1
def qt_rb (r : qt_R) : Prop := r.1 ≤ 512 ∧ r.2.1 < 6 ∧ r.2.2.1 < 16 ∧ r.2.2.2.1 < 96 ∧ r.2.2.2.2 ≤ 4
theorem qt_okB {t : qt_T} {r : qt_R} (h : qt_ok t r) : qt_rb r := by
  obtain ⟨so, pl, cl, cw, rl, ro, sp⟩ := t
  obtain ⟨e, q, a, b, c⟩ := r
  obtain ⟨he, h⟩ := h
  show e ≤ 512 ∧ q < 6 ∧ a < 16 ∧ b < 96 ∧ c ≤ 4
  rcases h with ⟨rfl, h1, h2, h3, h4, h5, h6⟩ | ⟨rfl, h1, h2, h3, h4, h5⟩ | ⟨rfl, h1, h2, h3⟩ | ⟨rfl, h1, h2, h3, h4⟩ | ⟨rfl, h1, h2, h3, h4, h5⟩ | ⟨rfl, h1, h2, h3, h4, h5, h6, h7⟩
  · omega
  · omega
  · omega
  · omega
  · omega
  · omega
theorem qt_pkL {r : qt_R} (h : qt_rb r) : qt_pk r < 1073741824 := by
  obtain ⟨e, q, a, b, c⟩ := r
  obtain ⟨h1, h2, h3, h4, h5⟩ := h
  dsimp only at h1 h2 h3 h4 h5
  show e * 1048576 + c * 65536 + b * 256 + a * 8 + q < 1073741824
  omega
theorem qt_pkD {r : qt_R} (h : qt_rb r) : qt_pk r % 8 = r.2.1 ∧ qt_pk r / 8 % 32 = r.2.2.1 ∧ qt_pk r / 256 % 256 = r.2.2.2.1 ∧ qt_pk r / 65536 % 16 = r.2.2.2.2 ∧ qt_pk r / 1048576 = r.1 := by
  obtain ⟨e, q, a, b, c⟩ := r
  obtain ⟨h1, h2, h3, h4, h5⟩ := h
  dsimp only at h1 h2 h3 h4 h5
  show (e * 1048576 + c * 65536 + b * 256 + a * 8 + q) % 8 = q ∧ (e * 1048576 + c * 65536 + b * 256 + a * 8 + q) / 8 % 32 = a ∧ (e * 1048576 + c * 65536 + b * 256 + a * 8 + q) / 256 % 256 = b ∧ (e * 1048576 + c * 65536 + b * 256 + a * 8 + q) / 65536 % 16 = c ∧ (e * 1048576 + c * 65536 + b * 256 + a * 8 + q) / 1048576 = e
  omega
theorem qt_or {k a b : Nat} (hb : b < 2 ^ k) (h : a * 2 ^ k + b < 2 ^ 63) : lN (a * 2 ^ k) ||| lN b = lN (a * 2 ^ k + b) := by
  rw [wb_or (by omega) (by omega), Nat.mul_comm a, Nat.two_pow_add_eq_or_of_lt hb]
def bo_p (x : Bool) : Int32 := if x then 1 else 0
def bo_n (x : Bool) : Int32 := if x then 0 else 1
theorem bo_pt : bo_p true = 1 := rfl
theorem bo_pf : bo_p false = 0 := rfl
theorem bo_nt : bo_n true = 0 := rfl
theorem bo_nf : bo_n false = 1 := rfl
theorem bo_p0 {x : Bool} : bo_p x = 0 ↔ x = false := by cases x <;> decide
theorem bo_p1 {x : Bool} : bo_p x = 1 ↔ x = true := by cases x <;> decide
theorem bo_n0 {x : Bool} : bo_n x = 0 ↔ x = true := by cases x <;> decide
theorem bo_n1 {x : Bool} : bo_n x = 1 ↔ x = false := by cases x <;> decide
theorem bo_z (z : Int32) : ∃ x : Bool, lw_bz z = bo_p x := by
  rcases lw_bz_01 z with h | h
  · exact ⟨false, h⟩
  · exact ⟨true, h⟩
theorem bo_v0 : vp_nar .boolean 0 = 0 := rfl
theorem bo_v1 : vp_nar .boolean 1 = 1 := rfl
theorem bo_vp (x : Bool) : vp_nar .boolean (bo_p x) = bo_p x := by cases x <;> rfl
theorem bo_vn (x : Bool) : vp_nar .boolean (bo_n x) = bo_n x := by cases x <;> rfl
/-- an int against a range: its number, or the range's end if it is out of it -/
def ix_c (x : Int32) (N n : Nat) : Prop := (n < N ∧ x = nI n) ∨ (n = N ∧ (x < 0 ∨ (nI N ≤ x ∧ ¬ x < 0)))
theorem ix_e (x : Int32) {N : Nat} (hN : N < 2 ^ 31) : ∃ n, ix_c x N n := by
  by_cases h : x < 0
  · exact ⟨N, Or.inr ⟨rfl, Or.inl h⟩⟩
  · rcases pk_ix x hN with h' | h' | ⟨j, hj, e⟩
    · exact absurd h' h
    · exact ⟨N, Or.inr ⟨rfl, Or.inr ⟨h', h⟩⟩⟩
    · exact ⟨j, Or.inl ⟨hj, e⟩⟩
theorem ix_i {x : Int32} {N n : Nat} (h : ix_c x N n) (hn : n < N) : x = nI n := by
  rcases h with h | h
  · exact h.2
  · omega
/-- the usual test of a range -/
theorem ix_t {x y : Int32} {N n : Nat} {A B : Prop} (h : ix_c x N n) (hy : y = nI N) (hN : N < 2 ^ 31) (a : n < N → x = nI n → A) (b : n = N → B) : (x < 0 → B) ∧ (¬ x < 0 → (y ≤ x → B) ∧ (¬ y ≤ x → A)) := by
  subst hy
  rcases h with ⟨h1, rfl⟩ | ⟨rfl, h | ⟨h, h'⟩⟩
  · refine ⟨fun z => absurd z (nI_pos (by omega)), fun _ => ⟨fun z => absurd z (nI_ge h1 hN), fun _ => a h1 rfl⟩⟩
  · exact ⟨fun _ => b rfl, fun z => absurd h z⟩
  · exact ⟨fun z => absurd z h', fun _ => ⟨fun _ => b rfl, fun z => absurd h z⟩⟩
theorem ix_m1 {n : Nat} (h : n < 2 ^ 31) : ¬ nI n = -1 := by
  intro z
  have := nI_pos (n := n) h
  rw [z] at this
  exact this (by decide)
theorem qt_mT {n : Nat} (h : n < 2 ^ 31) : (qt_m n).toInt = (n : Int) - 1 := by
  cases n with
  | zero => rw [qt_m0]; decide
  | succ n => rw [qt_ms, nI_toInt (by omega)]; omega
theorem qt_mE {a b : Nat} (ha : a < 2 ^ 31) (hb : b < 2 ^ 31) : qt_m a = qt_m b ↔ a = b := by
  rw [← Int32.toInt_inj, qt_mT ha, qt_mT hb]; omega
theorem qt_mL {a b : Nat} (ha : a < 2 ^ 31) (hb : b < 2 ^ 31) : qt_m a < qt_m b ↔ a < b := by
  rw [Int32.lt_iff_toInt_lt, qt_mT ha, qt_mT hb]; omega
theorem qt_m0E {a : Nat} (ha : a < 2 ^ 31) : qt_m a = -1 ↔ a = 0 := by
  rw [← qt_m0, qt_mE ha (by decide)]
theorem qt_mZ {a : Nat} (ha : a < 2 ^ 31) : qt_m a < 0 ↔ a = 0 := by
  rw [Int32.lt_iff_toInt_lt, qt_mT ha, show (0 : Int32).toInt = 0 from rfl]; omega
theorem qt_mN {a s : Nat} (ha : a < 2 ^ 31) (hs : s < 2 ^ 31) : qt_m a < nI s ↔ a ≤ s := by
  rw [Int32.lt_iff_toInt_lt, qt_mT ha, nI_toInt hs]; omega
theorem qt_Nm {a s : Nat} (ha : a < 2 ^ 31) (hs : s < 2 ^ 31) : nI s ≤ qt_m a ↔ s < a := by
  rw [Int32.le_iff_toInt_le, qt_mT ha, nI_toInt hs]; omega
theorem qt_mle {a b : Nat} (ha : a < 2 ^ 31) (hb : b < 2 ^ 31) : qt_m a ≤ qt_m b ↔ a ≤ b := by
  rw [Int32.le_iff_toInt_le, qt_mT ha, qt_mT hb]; omega
theorem qt_mEn {a s : Nat} (ha : a < 2 ^ 31) (hs : s < 2 ^ 31) : qt_m a = nI s ↔ a = s + 1 := by
  rw [← Int32.toInt_inj, qt_mT ha, nI_toInt hs]; omega
/-! loops that search, loops that gather -/
theorem lq_s (W : Nat → Nat → Prop) (N M : Nat) (hM : M ≤ N) (stop : ∀ n, M = N → W (n + 1) N) (hit : ∀ n, M < N → W (n + 1) M) (step : ∀ n d, d < M → W n (d + 1) → W (n + 1) d) :
    ∀ n d, d ≤ M → N - d < n → W n d := by
  intro n
  induction n with
  | zero => intro d _ h; omega
  | succ n ih =>
    intro d hd hn
    by_cases h : d < M
    · exact step n d h (ih (d + 1) (by omega) (by omega))
    · have e : d = M := by omega
      subst e
      by_cases h' : d < N
      · exact hit n h'
      · have e : d = N := by omega
        subst e
        exact stop n rfl
theorem lq_f {σ : Type} (W : Nat → Nat → σ → Prop) (N : Nat) (v : Nat → σ) (fin : ∀ n, W (n + 1) N (v N)) (step : ∀ n d, d < N → W n (d + 1) (v (d + 1)) → W (n + 1) d (v d)) :
    ∀ n d, d ≤ N → N - d < n → W n d (v d) := by
  intro n
  induction n with
  | zero => intro d _ h; omega
  | succ n ih =>
    intro d hd hn
    by_cases h : d < N
    · exact step n d h (ih (d + 1) (by omega) (by omega))
    · have e : d = N := by omega
      subst e
      exact fin n
theorem lq_g {σ : Type} (W : Nat → Nat → σ → Prop) (i0 N : Nat) (v : Nat → σ) (fin : ∀ n, W (n + 1) N (v N)) (step : ∀ n d, i0 ≤ d → d < N → W n (d + 1) (v (d + 1)) → W (n + 1) d (v d)) :
    ∀ n d, i0 ≤ d → d ≤ N → N - d < n → W n d (v d) := by
  intro n
  induction n with
  | zero => intro d _ _ h; omega
  | succ n ih =>
    intro d h0 hd hn
    by_cases h : d < N
    · exact step n d h0 h (ih (d + 1) (by omega) (by omega) (by omega))
    · have e : d = N := by omega
      subst e
      exact fin n
theorem bo_ex (P : Nat → Prop) : ∃ f : Nat → Bool, ∀ b, f b = true ↔ P b := by
  classical
  exact ⟨fun b => decide (P b), fun b => decide_eq_true_iff⟩
end
section
/-! the logs: pure -/
abbrev lj_L : Type := (Nat → Bool) × (Nat → Bool) × Nat × Nat × (Nat → Bool) × (Nat → Nat) × (Nat → Nat) × (Nat → Nat) × (Nat → Nat → qt_R)
abbrev rd_D : Type := (Nat → Bool) × (Nat → Nat) × (Nat → Nat) × (Nat → Int32)
def lj_src (to : Nat → Bool) : Nat := if to 0 = true then 0 else if to 1 = true then 1 else 2
def lj_two (to : Nat → Bool) : Prop := ∀ i j, i < j → j < 3 → to i = true ∨ to j = true
theorem lj_srcL (to : Nat → Bool) : lj_src to < 3 := by
  unfold lj_src; split
  · decide
  · split <;> decide
theorem lj_srcT {to : Nat → Bool} (h : lj_two to) : to (lj_src to) = true := by
  unfold lj_src
  split
  · assumption
  · split
    · assumption
    · rename_i h0 h1
      rcases h 0 2 (by decide) (by decide) with z | z
      · exact absurd z h0
      · exact z
def lj_kp (to : Nat → Bool) : Bool := (to 0 && to 1) || (to 0 && to 2) || (to 1 && to 2)
theorem lj_kpT {to : Nat → Bool} (h : lj_kp to = true) : lj_two to := by
  unfold lj_kp at h
  intro i j hi hj
  have hc : (i = 0 ∧ j = 1) ∨ (i = 0 ∧ j = 2) ∨ (i = 1 ∧ j = 2) := by omega
  rcases hc with ⟨rfl, rfl⟩ | ⟨rfl, rfl⟩ | ⟨rfl, rfl⟩ <;> revert h <;> cases to 0 <;> cases to 1 <;> cases to 2 <;> decide
def lj_sh (to : Nat → Bool) (le : Nat → Nat) (lg : Nat → Nat → qt_R) : Prop := ∀ j, j < 3 → to j = true → le j = le (lj_src to) ∧ ∀ k, k < le (lj_src to) → lg j k = lg (lj_src to) k
def lj_iv (k : Nat) (L : lj_L) (T : qt_T) : Prop :=
  match L with
  | (_, _, ac, ep, to, pr, ba, le, lg) =>
    4 * ep ≤ k ∧ ac ≤ 2 ∧ (∀ j, j < 3 → pr j ≤ ep) ∧ (∀ i j, i < j → j < 3 → pr i = ep ∨ pr j = ep)
      ∧ (∀ j, j < 3 → qt_wf (lg j) (le j) ∧ ba j ≤ le j ∧ le j ≤ ba j + 40 ∧ le j ≤ 1000)
      ∧ (0 < ac → lj_two to ∧ lj_sh to le lg ∧ T = qt_ab (lg (lj_src to)) (le (lj_src to)))
def lj_wr (L : lj_L) (q a b c : Nat) : lj_L :=
  match L with
  | (mu, ju, ac, ep, to, pr, ba, le, lg) =>
    (mu, ju, (if lj_kp (fun j => to j && ju j) = true then ac else 0), ep, (fun j => to j && ju j), pr, ba, (fun j => if (to j && ju j) = true then le j + 1 else le j), (fun j => if (to j && ju j) = true then qt_uR (lg j) (le j) (ep, q, a, b, c) else lg j))
def lj_kept (L : lj_L) : Bool := match L with | (_, ju, _, _, to, _, _, _, _) => lj_kp (fun j => to j && ju j)
def lj_len (L : lj_L) : Nat := match L with | (_, _, _, _, to, _, _, le, _) => le (lj_src to)
def lj_ep (L : lj_L) : Nat := L.2.2.2.1
def lj_ac (L : lj_L) : Nat := L.2.2.1
/-- room for n records more -/
def lj_rm (L : lj_L) (n : Nat) : Prop := match L with | (_, ju, _, _, to, _, ba, le, _) => ∀ j, j < 3 → to j = true → (ju j = true → le j + n ≤ ba j + 40) ∧ le j + n ≤ 1000
theorem lj_wrI {k : Nat} {L : lj_L} {T : qt_T} {q a b c : Nat} (I : lj_iv k L T) (ha : 0 < lj_ac L) (hr : lj_rm L 1) (ho : qt_ok T (lj_ep L, q, a, b, c)) :
    lj_iv k (lj_wr L q a b c) (if lj_kept L = true then qt_ap T (lj_ep L, q, a, b, c) (lj_len L) else T) := by
  obtain ⟨mu, ju, ac, ep, to, pr, ba, le, lg⟩ := L
  obtain ⟨i1, i2, i3, i4, i5, i6⟩ := I
  obtain ⟨t2, sh, eT⟩ := i6 ha
  have hT : ∀ j, j < 3 → to j = true → qt_ab (lg j) (le j) = T := by
    intro j hj ht
    obtain ⟨e1, e2⟩ := sh j hj ht
    rw [eT, e1]
    exact qt_abC e2
  refine ⟨i1, ?_, i3, i4, ?_, ?_⟩
  · show (if lj_kp (fun j => to j && ju j) = true then ac else 0) ≤ 2
    split <;> omega
  · intro j hj
    obtain ⟨w, b1, b2, b3⟩ := i5 j hj
    show qt_wf (if (to j && ju j) = true then qt_uR (lg j) (le j) (ep, q, a, b, c) else lg j) (if (to j && ju j) = true then le j + 1 else le j) ∧ ba j ≤ (if (to j && ju j) = true then le j + 1 else le j) ∧ (if (to j && ju j) = true then le j + 1 else le j) ≤ ba j + 40 ∧ (if (to j && ju j) = true then le j + 1 else le j) ≤ 1000
    by_cases h : (to j && ju j) = true
    · rw [if_pos h, if_pos h]
      rw [Bool.and_eq_true] at h
      have r := hr j hj h.1
      have r1 := r.1 h.2
      refine ⟨qt_wfU w ?_, by omega, r1, r.2⟩
      rw [hT j hj h.1]
      exact ho
    · rw [if_neg h, if_neg h]
      exact ⟨w, b1, b2, b3⟩
  · show 0 < (if lj_kp (fun j => to j && ju j) = true then ac else 0) → _
    intro hp
    have hk : lj_kp (fun j => to j && ju j) = true := by
      by_cases h : lj_kp (fun j => to j && ju j) = true
      · exact h
      · rw [if_neg h] at hp; omega
    have h2 : lj_two (fun j => to j && ju j) := lj_kpT hk
    have hs := lj_srcT h2
    have hsl := lj_srcL (fun j => to j && ju j)
    refine ⟨h2, ?_, ?_⟩
    · intro j hj htj
      have htj' : (to j && ju j) = true := htj
      generalize lj_src (fun j => to j && ju j) = s at hs hsl
      have hs' : (to s && ju s) = true := hs
      dsimp only
      rw [if_pos htj', if_pos hs', if_pos htj', if_pos hs']
      rw [Bool.and_eq_true] at htj' hs'
      obtain ⟨e1, e2⟩ := sh j hj htj'.1
      obtain ⟨f1, f2⟩ := sh s hsl hs'.1
      refine ⟨by omega, ?_⟩
      intro k hk'
      by_cases z : k = le s
      · rw [e1, f1, z, f1, qt_uRs, qt_uRs]
      · rw [qt_uRn (by omega), qt_uRn z, e2 k (by omega), f2 k (by omega)]
    · generalize lj_src (fun j => to j && ju j) = s at hs hsl
      have hs' : (to s && ju s) = true := hs
      show (if lj_kp (fun j => to j && ju j) = true then qt_ap T (ep, q, a, b, c) (le (lj_src to)) else T) = _
      dsimp only
      rw [if_pos hk, if_pos hs', if_pos hs', qt_abU]
      rw [Bool.and_eq_true] at hs'
      rw [hT s hsl hs'.1, (sh s hsl hs'.1).1]
theorem lj_wrR {L : lj_L} {q a b c n : Nat} (h : lj_rm L (n + 1)) : lj_rm (lj_wr L q a b c) n := by
  obtain ⟨mu, ju, ac, ep, to, pr, ba, le, lg⟩ := L
  intro j hj ht
  have ht' : (to j && ju j) = true := ht
  show (ju j = true → (if (to j && ju j) = true then le j + 1 else le j) + n ≤ ba j + 40) ∧ (if (to j && ju j) = true then le j + 1 else le j) + n ≤ 1000
  rw [if_pos ht']
  rw [Bool.and_eq_true] at ht'
  have r := h j hj ht'.1
  exact ⟨fun z => by have := r.1 z; omega, by have := r.2; omega⟩
theorem lj_wrN {k : Nat} {L : lj_L} {T : qt_T} {q a b c : Nat} (I : lj_iv k L T) (ha : 0 < lj_ac L) (hk : lj_kept L = true) : lj_len (lj_wr L q a b c) = lj_len L + 1 ∧ lj_ac (lj_wr L q a b c) = lj_ac L ∧ lj_ep (lj_wr L q a b c) = lj_ep L := by
  obtain ⟨mu, ju, ac, ep, to, pr, ba, le, lg⟩ := L
  obtain ⟨i1, i2, i3, i4, i5, i6⟩ := I
  obtain ⟨t2, sh, eT⟩ := i6 ha
  have hk' : lj_kp (fun j => to j && ju j) = true := hk
  have hs := lj_srcT (lj_kpT hk')
  have hsl := lj_srcL (fun j => to j && ju j)
  refine ⟨?_, ?_, rfl⟩
  · show (if (to (lj_src (fun j => to j && ju j)) && ju (lj_src (fun j => to j && ju j))) = true then le (lj_src (fun j => to j && ju j)) + 1 else le (lj_src (fun j => to j && ju j))) = le (lj_src to) + 1
    generalize lj_src (fun j => to j && ju j) = s at hs hsl
    have hs' : (to s && ju s) = true := hs
    rw [if_pos hs']
    rw [Bool.and_eq_true] at hs'
    rw [(sh s hsl hs'.1).1]
  · show (if lj_kp (fun j => to j && ju j) = true then ac else 0) = ac
    rw [if_pos hk']
theorem lj_wrA {L : lj_L} {q a b c : Nat} (hk : lj_kept L = false) : lj_ac (lj_wr L q a b c) = 0 ∧ lj_ep (lj_wr L q a b c) = lj_ep L := by
  obtain ⟨mu, ju, ac, ep, to, pr, ba, le, lg⟩ := L
  have hk' : lj_kp (fun j => to j && ju j) = false := hk
  refine ⟨?_, rfl⟩
  show (if lj_kp (fun j => to j && ju j) = true then ac else 0) = 0
  rw [if_neg (by rw [hk']; decide)]
/-- what holds of the replicas -/
def rd_iv (L : lj_L) (D : rd_D) : Prop :=
  match D with
  | (_, st, un, _) => (∀ c, c < 80 → st c ≤ if 0 < lj_ac L then 2048 * lj_ep L + lj_len L else 2048 * (lj_ep L + 1)) ∧ ∀ c, c < 80 → un c ≤ 8
end
section
/-! takeover, fold, power: pure -/
def lj_le (le : Nat → Nat) (lg : Nat → Nat → qt_R) (j : Nat) : Nat := if le j = 0 then 0 else (lg j (le j - 1)).1
theorem lj_leL {le : Nat → Nat} {lg : Nat → Nat → qt_R} {j : Nat} (w : qt_wf (lg j) (le j)) : lj_le le lg j ≤ 512 := by
  unfold lj_le
  split
  · omega
  · exact (qt_okB (w (le j - 1) (by omega))).1
def lj_gp (ju : Nat → Bool) (pr : Nat → Nat) : Nat → Nat
  | 0 => 0
  | n + 1 => if ju n = true ∧ lj_gp ju pr n < pr n then pr n else lj_gp ju pr n
theorem lj_gpS (ju : Nat → Bool) (pr : Nat → Nat) (n : Nat) : lj_gp ju pr (n + 1) = if ju n = true ∧ lj_gp ju pr n < pr n then pr n else lj_gp ju pr n := rfl
theorem lj_gpB {ju : Nat → Bool} {pr : Nat → Nat} {ep : Nat} (h : ∀ j, j < 3 → pr j ≤ ep) : ∀ {n : Nat}, n ≤ 3 → lj_gp ju pr n ≤ ep := by
  intro n
  induction n with
  | zero => intro _; exact Nat.zero_le _
  | succ n ih =>
    intro hn
    have := ih (by omega)
    have := h n (by omega)
    rw [lj_gpS]
    split <;> omega
theorem lj_gpU {ju : Nat → Bool} {pr : Nat → Nat} : ∀ {n j : Nat}, j < n → ju j = true → pr j ≤ lj_gp ju pr n := by
  intro n
  induction n with
  | zero => intro j h; omega
  | succ n ih =>
    intro j hj hu
    rw [lj_gpS]
    by_cases e : j = n
    · subst e
      by_cases z : lj_gp ju pr j < pr j
      · rw [if_pos ⟨hu, z⟩]; omega
      · rw [if_neg (fun y => z y.2)]; omega
    · have := ih (j := j) (by omega) hu
      split <;> omega
theorem lj_cn2 {ju : Nat → Bool} (h : 2 ≤ rd_cn ju 3) : lj_two ju := by
  have h' : 2 ≤ 0 + (if ju 0 then 1 else 0) + (if ju 1 then 1 else 0) + (if ju 2 then 1 else 0) := h
  intro i j hi hj
  have hc : (i = 0 ∧ j = 1) ∨ (i = 0 ∧ j = 2) ∨ (i = 1 ∧ j = 2) := by omega
  rcases hc with ⟨rfl, rfl⟩ | ⟨rfl, rfl⟩ | ⟨rfl, rfl⟩ <;> revert h' <;> cases ju 0 <;> cases ju 1 <;> cases ju 2 <;> decide
theorem lj_gpE {ju : Nat → Bool} {pr : Nat → Nat} {ep : Nat} (h : ∀ j, j < 3 → pr j ≤ ep) (h2 : ∀ i j, i < j → j < 3 → pr i = ep ∨ pr j = ep) (hu : lj_two ju) : lj_gp ju pr 3 = ep := by
  have hb := lj_gpB (ju := ju) h (n := 3) (by decide)
  have hx : ∃ j, j < 3 ∧ ju j = true ∧ pr j = ep := by
    by_cases a0 : pr 0 = ep
    · by_cases a1 : pr 1 = ep
      · rcases hu 0 1 (by decide) (by decide) with z | z
        · exact ⟨0, by decide, z, a0⟩
        · exact ⟨1, by decide, z, a1⟩
      · rcases h2 1 2 (by decide) (by decide) with z | a2
        · exact absurd z a1
        · rcases hu 0 2 (by decide) (by decide) with z | z
          · exact ⟨0, by decide, z, a0⟩
          · exact ⟨2, by decide, z, a2⟩
    · rcases h2 0 1 (by decide) (by decide) with z | a1
      · exact absurd z a0
      · rcases h2 0 2 (by decide) (by decide) with z | a2
        · exact absurd z a0
        · rcases hu 1 2 (by decide) (by decide) with z | z
          · exact ⟨1, by decide, z, a1⟩
          · exact ⟨2, by decide, z, a2⟩
  obtain ⟨j, hj, hj2, hj3⟩ := hx
  have := lj_gpU (pr := pr) hj hj2
  omega
/-- the best log's journal, and 1 (B: better) -/
def lj_bt (B : Nat → Nat → Bool) (ju : Nat → Bool) : Nat → Nat
  | 0 => 0
  | n + 1 => if ju n = true ∧ (lj_bt B ju n = 0 ∨ B n (lj_bt B ju n - 1) = true) then n + 1 else lj_bt B ju n
theorem lj_btS (B : Nat → Nat → Bool) (ju : Nat → Bool) (n : Nat) : lj_bt B ju (n + 1) = if ju n = true ∧ (lj_bt B ju n = 0 ∨ B n (lj_bt B ju n - 1) = true) then n + 1 else lj_bt B ju n := rfl
theorem lj_btP {B : Nat → Nat → Bool} {ju : Nat → Bool} : ∀ {n : Nat}, lj_bt B ju n = 0 ∨ (lj_bt B ju n ≤ n ∧ ju (lj_bt B ju n - 1) = true) := by
  intro n
  induction n with
  | zero => exact Or.inl rfl
  | succ n ih =>
    rw [lj_btS]
    split
    · rename_i h
      exact Or.inr ⟨Nat.le_refl _, h.1⟩
    · rcases ih with ih | ih
      · exact Or.inl ih
      · exact Or.inr ⟨by omega, ih.2⟩
theorem lj_bt0 {B : Nat → Nat → Bool} {ju : Nat → Bool} : ∀ {n d : Nat}, d < n → ju d = true → lj_bt B ju n ≠ 0 := by
  intro n
  induction n with
  | zero => intro d h; omega
  | succ n ih =>
    intro d hd h2
    rw [lj_btS]
    by_cases e : d = n
    · subst e
      split
      · omega
      · rename_i h
        intro z
        exact h ⟨h2, Or.inl z⟩
    · have := ih (d := d) (by omega) h2
      split <;> omega
def lj_B (le : Nat → Nat) (lg : Nat → Nat → qt_R) (j i : Nat) : Bool := decide (lj_le le lg i < lj_le le lg j ∨ (lj_le le lg j = lj_le le lg i ∧ le i < le j))
def lj_s (ju : Nat → Bool) (le : Nat → Nat) (lg : Nat → Nat → qt_R) : Nat := lj_bt (lj_B le lg) ju 3 - 1
theorem lj_sP {ju : Nat → Bool} {le : Nat → Nat} {lg : Nat → Nat → qt_R} (h : lj_two ju) : lj_s ju le lg < 3 ∧ ju (lj_s ju le lg) = true ∧ lj_bt (lj_B le lg) ju 3 = lj_s ju le lg + 1 := by
  have h0 : lj_bt (lj_B le lg) ju 3 ≠ 0 := by
    rcases h 0 1 (by decide) (by decide) with z | z
    · exact lj_bt0 (by decide) z
    · exact lj_bt0 (by decide) z
  rcases lj_btP (B := lj_B le lg) (ju := ju) (n := 3) with z | ⟨z1, z2⟩
  · exact absurd z h0
  · unfold lj_s
    exact ⟨by omega, z2, by omega⟩
def lj_tk (L : lj_L) (m : Nat) : lj_L :=
  match L with
  | (mu, ju, _, _, _, pr, ba, le, lg) =>
    (mu, ju, m + 1, lj_gp ju pr 3 + 1, ju, (fun j => if ju j = true then lj_gp ju pr 3 + 1 else pr j), (fun j => if ju j = true then ba (lj_s ju le lg) else ba j), (fun j => if ju j = true then le (lj_s ju le lg) else le j), (fun j => if ju j = true then lg (lj_s ju le lg) else lg j))
def lj_tkT (L : lj_L) : qt_T := match L with | (_, ju, _, _, _, _, _, le, lg) => qt_ab (lg (lj_s ju le lg)) (le (lj_s ju le lg))
def lj_up (L : lj_L) : Nat → Bool := L.2.1
theorem lj_tkI {k m : Nat} {L : lj_L} {T : qt_T} (I : lj_iv k L T) (hm : m < 2) (hu : 2 ≤ rd_cn (lj_up L) 3) : lj_iv (k + 4) (lj_tk L m) (lj_tkT L) ∧ lj_ep (lj_tk L m) = lj_ep L + 1 := by
  obtain ⟨mu, ju, ac, ep, to, pr, ba, le, lg⟩ := L
  obtain ⟨i1, i2, i3, i4, i5, i6⟩ := I
  have h2 : lj_two ju := lj_cn2 hu
  have hg := lj_gpE i3 i4 h2
  obtain ⟨s1, s2, s3⟩ := lj_sP (le := le) (lg := lg) h2
  have hs := lj_srcT h2
  refine ⟨⟨?_, by omega, ?_, ?_, ?_, ?_⟩, by show lj_gp ju pr 3 + 1 = ep + 1; rw [hg]⟩
  · rw [hg]; omega
  · intro j hj
    have := i3 j hj
    show (if ju j = true then lj_gp ju pr 3 + 1 else pr j) ≤ lj_gp ju pr 3 + 1
    rw [hg]
    split <;> omega
  · intro i j hi hj
    show (if ju i = true then lj_gp ju pr 3 + 1 else pr i) = lj_gp ju pr 3 + 1 ∨ (if ju j = true then lj_gp ju pr 3 + 1 else pr j) = lj_gp ju pr 3 + 1
    rcases h2 i j hi hj with z | z
    · left; rw [if_pos z]
    · right; rw [if_pos z]
  · intro j hj
    show qt_wf (if ju j = true then lg (lj_s ju le lg) else lg j) (if ju j = true then le (lj_s ju le lg) else le j) ∧ (if ju j = true then ba (lj_s ju le lg) else ba j) ≤ (if ju j = true then le (lj_s ju le lg) else le j) ∧ (if ju j = true then le (lj_s ju le lg) else le j) ≤ (if ju j = true then ba (lj_s ju le lg) else ba j) + 40 ∧ (if ju j = true then le (lj_s ju le lg) else le j) ≤ 1000
    by_cases z : ju j = true
    · rw [if_pos z, if_pos z, if_pos z]; exact i5 _ s1
    · rw [if_neg z, if_neg z, if_neg z]; exact i5 j hj
  · intro _
    refine ⟨h2, ?_, ?_⟩
    · intro j hj hj2
      show (if ju j = true then le (lj_s ju le lg) else le j) = (if ju (lj_src ju) = true then le (lj_s ju le lg) else le (lj_src ju)) ∧ ∀ k, k < (if ju (lj_src ju) = true then le (lj_s ju le lg) else le (lj_src ju)) → (if ju j = true then lg (lj_s ju le lg) else lg j) k = (if ju (lj_src ju) = true then lg (lj_s ju le lg) else lg (lj_src ju)) k
      rw [if_pos hj2, if_pos hs, if_pos hj2, if_pos hs]
      exact ⟨rfl, fun _ _ => rfl⟩
    · show qt_ab (lg (lj_s ju le lg)) (le (lj_s ju le lg)) = qt_ab (if ju (lj_src ju) = true then lg (lj_s ju le lg) else lg (lj_src ju)) (if ju (lj_src ju) = true then le (lj_s ju le lg) else le (lj_src ju))
      rw [if_pos hs, if_pos hs]
def lj_fo (L : lj_L) : lj_L :=
  match L with
  | (mu, ju, ac, ep, to, pr, ba, le, lg) => (mu, ju, ac, ep, to, pr, (fun j => if (to j && ju j) = true then le j else ba j), le, lg)
theorem lj_foI {k : Nat} {L : lj_L} {T : qt_T} (I : lj_iv k L T) : lj_iv k (lj_fo L) T := by
  obtain ⟨mu, ju, ac, ep, to, pr, ba, le, lg⟩ := L
  obtain ⟨i1, i2, i3, i4, i5, i6⟩ := I
  refine ⟨i1, i2, i3, i4, ?_, i6⟩
  intro j hj
  obtain ⟨w, b1, b2, b3⟩ := i5 j hj
  show qt_wf (lg j) (le j) ∧ (if (to j && ju j) = true then le j else ba j) ≤ le j ∧ le j ≤ (if (to j && ju j) = true then le j else ba j) + 40 ∧ le j ≤ 1000
  refine ⟨w, ?_, ?_, b3⟩ <;> split <;> omega
theorem lj_ivK {k k' : Nat} {L : lj_L} {T : qt_T} (h : k ≤ k') (I : lj_iv k L T) : lj_iv k' L T := by
  obtain ⟨mu, ju, ac, ep, to, pr, ba, le, lg⟩ := L
  obtain ⟨i1, i2⟩ := I
  exact ⟨by omega, i2⟩
/-! units go on: pure -/
def rd_lo (f : Nat → Bool) : Nat → Nat
  | 0 => 0
  | n + 1 => if f n = true then n + 1 else rd_lo f n
theorem rd_loP {f : Nat → Bool} : ∀ {n : Nat}, rd_lo f n = 0 ∨ (rd_lo f n ≤ n ∧ f (rd_lo f n - 1) = true) := by
  intro n
  induction n with
  | zero => exact Or.inl rfl
  | succ n ih =>
    show (if f n = true then n + 1 else rd_lo f n) = 0 ∨ ((if f n = true then n + 1 else rd_lo f n) ≤ n + 1 ∧ f ((if f n = true then n + 1 else rd_lo f n) - 1) = true)
    split
    · rename_i h
      exact Or.inr ⟨Nat.le_refl _, h⟩
    · rcases ih with ih | ih
      · exact Or.inl ih
      · exact Or.inr ⟨by omega, ih.2⟩
/-- node d gets a unit from the nearest lower one -/
def rd_pd (f : Nat → Bool) (un : Nat → Nat) (b d : Nat) : Prop := f d = true ∧ 0 < rd_lo f d ∧ un (16 * d + b) < un (16 * (rd_lo f d - 1) + b)
/-- the last block of a file that is being written -/
def qt_ol (T : qt_T) (b : Nat) : Prop := ∃ f, f < 12 ∧ qt_so T f = 2 ∧ 0 < qt_rl T f ∧ qt_ro T (3 * f + (qt_rl T f - 1)) = b
theorem qt_olI {T : qt_T} {b : Nat} (h : qt_ol T b) : qt_in (qt_rl T) (qt_ro T) b := by
  obtain ⟨f, h1, h2, h3, h4⟩ := h
  exact ⟨f, qt_rl T f - 1, h1, by omega, h4⟩
def rd_pg (T : qt_T) (nu : Nat → Bool) (st un : Nat → Nat) (b : Nat) : Prop := qt_ol T b ∧ ∃ d, d < 5 ∧ rd_pd (rd_g nu st b (qt_sp T b)) un b d
def rd_ps (D : rd_D) (b d e : Nat) : rd_D :=
  match D with
  | (nu, st, un, ua) => (nu, st, qt_u un (16 * d + b) (un (16 * d + b) + 1), upd ua (8 * (16 * d + b) + un (16 * d + b)) (ua (8 * (16 * e + b) + un (16 * d + b))))
/-! tend: pure -/
def rd_dr (keep : Nat → Bool) (d n : Nat) (st : Nat → Nat) : Nat → Nat := fun c => if c / 16 = d ∧ c % 16 < n ∧ keep (c % 16) = false then 0 else st c
theorem rd_dr0 {keep : Nat → Bool} {d : Nat} {st : Nat → Nat} : rd_dr keep d 0 st = st := by
  funext c
  unfold rd_dr
  simp
theorem rd_drS {keep : Nat → Bool} {d n c : Nat} {st : Nat → Nat} (hn : n < 16) : rd_dr keep d (n + 1) st c = if c = 16 * d + n ∧ keep n = false then 0 else rd_dr keep d n st c := by
  unfold rd_dr
  by_cases h : c = 16 * d + n
  · subst h
    have h1 : (16 * d + n) / 16 = d := by omega
    have h2 : (16 * d + n) % 16 = n := by omega
    rw [h1, h2]
    by_cases z : keep n = false
    · rw [if_pos ⟨rfl, by omega, z⟩, if_pos ⟨rfl, z⟩]
    · rw [if_neg (fun y => z y.2.2), if_neg (fun y => z y.2), if_neg (fun y => z y.2.2)]
  · rw [if_neg (c := c = 16 * d + n ∧ keep n = false) (fun y => h y.1)]
    by_cases h1 : c / 16 = d
    · have h2 : (c % 16 < n + 1) ↔ (c % 16 < n) := by omega
      simp only [h1, h2]
    · rw [if_neg (c := c / 16 = d ∧ c % 16 < n + 1 ∧ keep (c % 16) = false) (fun y => h1 y.1), if_neg (c := c / 16 = d ∧ c % 16 < n ∧ keep (c % 16) = false) (fun y => h1 y.1)]
theorem rd_drN {keep : Nat → Bool} {d n e b : Nat} {st : Nat → Nat} (hb : b < 16) (h : n ≤ b) : rd_dr keep d n st (16 * e + b) = st (16 * e + b) := by
  unfold rd_dr
  rw [if_neg]
  intro y
  omega
theorem rd_drB {keep : Nat → Bool} {d n c B : Nat} {st : Nat → Nat} (h : st c ≤ B) : rd_dr keep d n st c ≤ B := by
  unfold rd_dr
  split <;> omega
def rd_cp (ua : Nat → Int32) (to fr : Nat) : Nat → Nat → Int32
  | 0 => ua
  | n + 1 => upd (rd_cp ua to fr n) (8 * to + n) (rd_cp ua to fr n (8 * fr + n))
end
section
/-! the two states against the pure one -/
def lj_ce (r : qt_R) (e q a b c : Int32) : Prop := e = nI r.1 ∧ q = nI r.2.1 ∧ a = nI r.2.2.1 ∧ b = nI r.2.2.2.1 ∧ c = qt_m r.2.2.2.2
def sx_T (T : qt_T) (u : SX) : Prop :=
  match u with
  | (_, _, _, _, _, _, _, _, _, _, _, _, _, _, a_inodeState, a_inodePlace, a_inodeClient, a_closeUnits, a_rowLength, a_rowBlock, a_blockStamp, _, _, _, _) =>
    qt_ag True T a_inodeState a_inodePlace a_inodeClient a_closeUnits a_rowLength a_rowBlock a_blockStamp
def sx_L (L : lj_L) (u : SX) : Prop :=
  match L, u with
  | (mu, ju, ac, ep, to, pr, ba, le, lg), (f_active, f_epoch, _, a_journalDown, a_masterDown, a_inTouch, a_promise, a_base, a_logLength, a_logEpoch, a_logKind, a_logA, a_logB, a_logC, _, _, _, _, _, _, _, _, _, _, _) =>
    f_active = qt_m ac ∧ f_epoch = nI ep ∧ (∀ j, j < 3 → a_journalDown j = bo_n (ju j)) ∧ (∀ m, m < 2 → a_masterDown m = bo_n (mu m)) ∧ (∀ j, j < 3 → a_inTouch j = bo_p (to j))
      ∧ (∀ j, j < 3 → a_promise j = nI (pr j)) ∧ (∀ j, j < 3 → a_base j = nI (ba j)) ∧ (∀ j, j < 3 → a_logLength j = nI (le j))
      ∧ (∀ j k, j < 3 → k < le j → lj_ce (lg j k) (a_logEpoch (1000 * j + k)) (a_logKind (1000 * j + k)) (a_logA (1000 * j + k)) (a_logB (1000 * j + k)) (a_logC (1000 * j + k)))
def sx_D (D : rd_D) (u : SX) : Prop :=
  match D, u with
  | (nu, st, un, ua), (_, _, a_dataNodeDown, _, _, _, _, _, _, _, _, _, _, _, _, _, _, _, _, _, _, a_replicaHeld, a_replicaStamp, a_unitCount, a_unitValue) =>
    (∀ d, d < 5 → a_dataNodeDown d = bo_n (nu d)) ∧ (∀ c, c < 80 → a_replicaHeld c = if st c = 0 then 0 else 1) ∧ (∀ c, c < 80 → st c ≠ 0 → a_replicaStamp c = nI (st c - 1))
      ∧ (∀ c, c < 80 → a_unitCount c = nI (un c)) ∧ a_unitValue = ua
def sy_T (T : qt_T) (v : SY) : Prop :=
  match v with
  | (_, _, _, _, _, _, _, _, _, _, _, _, _, a_sort, a_placeOf, a_client, a_rowLength, a_row, a_closedWith, a_stampOf) =>
    qt_ag False T a_sort a_placeOf a_client a_closedWith a_rowLength a_row a_stampOf
def sy_L (L : lj_L) (v : SY) : Prop :=
  match L, v with
  | (mu, ju, ac, ep, to, pr, ba, le, lg), (f_active, f_epoch, _, a_journalUp, a_masterUp, a_touch, a_log, a_many, a_promise, a_base, _, _, _, _, _, _, _, _, _, _) =>
    f_active = qt_m ac ∧ f_epoch = nI ep ∧ (∀ j, j < 3 → a_journalUp j = bo_p (ju j)) ∧ (∀ m, m < 2 → a_masterUp m = bo_p (mu m)) ∧ (∀ j, j < 3 → a_touch j = bo_p (to j))
      ∧ (∀ j, j < 3 → a_promise j = nI (pr j)) ∧ (∀ j, j < 3 → a_base j = nI (ba j)) ∧ (∀ j, j < 3 → a_many j = nI (le j))
      ∧ (∀ j k, j < 3 → k < le j → a_log (1001 * j + k) = lN (qt_pk (lg j k)))
def sy_D (D : rd_D) (v : SY) : Prop :=
  match D, v with
  | (nu, st, un, ua), (_, _, a_nodeUp, _, _, _, _, _, _, _, a_stamp, a_units, a_unit, _, _, _, _, _, _, _) =>
    (∀ d, d < 5 → a_nodeUp d = bo_p (nu d)) ∧ (∀ c, c < 80 → a_stamp c = qt_m (st c)) ∧ (∀ c, c < 80 → a_units c = nI (un c)) ∧ a_unit = ua
def i_Rel (k : Nat) (u : SX) (v : SY) : Prop := ∃ (T : qt_T) (L : lj_L) (D : rd_D), sx_T T u ∧ sx_L L u ∧ sx_D D u ∧ sy_L L v ∧ sy_D D v ∧ qt_iv T ∧ lj_iv k L T ∧ rd_iv L D
theorem i_up {k : Nat} {u : SX} {v : SY} (h : i_Rel k u v) : i_Rel (k + 4) u v := by
  obtain ⟨T, L, D, h1, h2, h3, h4, h5, h6, h7, h8⟩ := h
  exact ⟨T, L, D, h1, h2, h3, h4, h5, h6, lj_ivK (by omega) h7, h8⟩
end
section
/-! reading the tables: the component -/
theorem qt_ag1 {F : Prop} {T : qt_T} {aS aP aC aW aL aR aT : Nat → Int32} (h : qt_ag F T aS aP aC aW aL aR aT) : ∀ i, i < 12 → aS i = nI (qt_so T i) := h.1
theorem qt_ag2 {F : Prop} {T : qt_T} {aS aP aC aW aL aR aT : Nat → Int32} (h : qt_ag F T aS aP aC aW aL aR aT) : ∀ i, i < 12 → aP i = qt_m (qt_pl T i) := h.2.1
theorem qt_ag3 {F : Prop} {T : qt_T} {aS aP aC aW aL aR aT : Nat → Int32} (h : qt_ag F T aS aP aC aW aL aR aT) : ∀ i, i < 12 → qt_so T i = 2 → aC i = qt_m (qt_cl T i) := h.2.2.1
theorem qt_ag4 {F : Prop} {T : qt_T} {aS aP aC aW aL aR aT : Nat → Int32} (h : qt_ag F T aS aP aC aW aL aR aT) : ∀ i, i < 12 → qt_so T i = 3 → aW i = nI (qt_cw T i) := h.2.2.2.1
theorem qt_ag5 {F : Prop} {T : qt_T} {aS aP aC aW aL aR aT : Nat → Int32} (h : qt_ag F T aS aP aC aW aL aR aT) : ∀ i, i < 12 → aL i = nI (qt_rl T i) := h.2.2.2.2.1
theorem qt_ag6 {F : Prop} {T : qt_T} {aS aP aC aW aL aR aT : Nat → Int32} (h : qt_ag F T aS aP aC aW aL aR aT) : ∀ i k, i < 12 → k < qt_rl T i → aR (3 * i + k) = nI (qt_ro T (3 * i + k)) := h.2.2.2.2.2.1
theorem qt_ag7 {F : Prop} {T : qt_T} {aS aP aC aW aL aR aT : Nat → Int32} (h : qt_ag F T aS aP aC aW aL aR aT) : ∀ b, b < 16 → (F ∨ qt_in (qt_rl T) (qt_ro T) b) → aT b = nI (qt_sp T b) := h.2.2.2.2.2.2
theorem qt_iv1 {T : qt_T} (I : qt_iv T) : qt_so T 0 = 1 := I.1
theorem qt_iv2 {T : qt_T} (I : qt_iv T) : qt_pl T 0 = 0 := I.2.1
theorem qt_iv3 {T : qt_T} (I : qt_iv T) : ∀ i, i < 12 → qt_so T i ≤ 3 := I.2.2.1
theorem qt_iv4 {T : qt_T} (I : qt_iv T) : ∀ i, i < 12 → qt_rl T i ≤ 3 := I.2.2.2.1
theorem qt_iv5 {T : qt_T} (I : qt_iv T) : ∀ i k, i < 12 → k < qt_rl T i → qt_ro T (3 * i + k) < 16 := I.2.2.2.2.1
theorem qt_iv6 {T : qt_T} (I : qt_iv T) : ∀ i, 1 ≤ i → i < 12 → qt_so T i ≠ 0 → 1 ≤ qt_pl T i ∧ qt_pl T i ≤ 96 ∧ qt_so T (qt_pa (qt_pl T) i) = 1 := I.2.2.2.2.2.1
theorem qt_iv7 {T : qt_T} (I : qt_iv T) : ∃ r, qt_tr (qt_so T) (qt_pl T) r ∧ ∀ i, i < 12 → r i < 12 := qt_rank I
theorem qt_iv8 {T : qt_T} (I : qt_iv T) : ∀ b, b < 16 → qt_sp T b < 2097152 := I.2.2.2.2.2.2.2.1
theorem qt_iv9 {T : qt_T} (I : qt_iv T) : ∀ i, i < 12 → qt_cl T i ≤ 4 := I.2.2.2.2.2.2.2.2.1
theorem qt_iv10 {T : qt_T} (I : qt_iv T) : ∀ i, i < 12 → qt_cw T i ≤ 8 := I.2.2.2.2.2.2.2.2.2
theorem cd_if {c d A B : Prop} (e : c ↔ d) (f : d → A) (g : ¬ d → B) : (c → A) ∧ (¬ c → B) := ⟨fun z => f (e.mp z), fun z => g (fun y => z (e.mpr y))⟩
theorem cd_e {a : Nat → Int32} {i v c : Nat} (h : a i = nI v) (hi : i < 2 ^ 31) (hv : v < 2 ^ 31) (hc : c < 2 ^ 31) : a (nI i).toNatClampNeg = nI c ↔ v = c := by rw [nI_clamp hi, h, nI_eq hv hc]
theorem cd_le {a : Nat → Int32} {i v c : Nat} (h : a i = nI v) (hi : i < 2 ^ 31) (hv : v < 2 ^ 31) (hc : c < 2 ^ 31) : nI c ≤ a (nI i).toNatClampNeg ↔ c ≤ v := by rw [nI_clamp hi, h, nI_leI hc hv]
theorem cd_ge {a : Nat → Int32} {i v c : Nat} (h : a i = nI v) (hi : i < 2 ^ 31) (hv : v < 2 ^ 31) (hc : c < 2 ^ 31) : a (nI i).toNatClampNeg ≤ nI c ↔ v ≤ c := by rw [nI_clamp hi, h, nI_leI hv hc]
theorem cd_lt {a : Nat → Int32} {i v c : Nat} (h : a i = nI v) (hi : i < 2 ^ 31) (hv : v < 2 ^ 31) (hc : c < 2 ^ 31) : nI c < a (nI i).toNatClampNeg ↔ c < v := by rw [nI_clamp hi, h, nI_ltI hc hv]
theorem cd_me {a : Nat → Int32} {i v c : Nat} (h : a i = qt_m v) (hi : i < 2 ^ 31) (hv : v < 2 ^ 31) (hc : c < 2 ^ 31) : a (nI i).toNatClampNeg = nI c ↔ v = c + 1 := by rw [nI_clamp hi, h, qt_mEn hv hc]
theorem cd_m1 {a : Nat → Int32} {i v : Nat} (h : a i = qt_m v) (hi : i < 2 ^ 31) (hv : v < 2 ^ 31) : a (nI i).toNatClampNeg = -1 ↔ v = 0 := by rw [nI_clamp hi, h, qt_m0E hv]
theorem cd_p {a : Nat → Int32} {i : Nat} {x : Bool} (h : a i = bo_p x) (hi : i < 2 ^ 31) : a (nI i).toNatClampNeg = 0 ↔ x = false := by rw [nI_clamp hi, h, bo_p0]
theorem cd_n {a : Nat → Int32} {i : Nat} {x : Bool} (h : a i = bo_n x) (hi : i < 2 ^ 31) : a (nI i).toNatClampNeg = 0 ↔ x = true := by rw [nI_clamp hi, h, bo_n0]
theorem cd_v {a : Nat → Int32} {i : Nat} (hi : i < 2 ^ 31) : a (nI i).toNatClampNeg = a i := by rw [nI_clamp hi]
theorem bo_1 : ¬ (1 : Int32) = 0 := by decide
theorem xm_isPresent {T : qt_T} {u : SX} (h : sx_T T u) (hI : qt_iv T) {post : Int32 → Prop} {i : Int32} {n : Nat} (hn : ix_c i 12 n) (h1 : n < 12 → qt_so T n ≠ 0 → post 1) (h0 : (n < 12 → qt_so T n = 0) → post 0) : wpX_isPresent post u i := by
  obtain ⟨f_active, f_epoch, a_dataNodeDown, a_journalDown, a_masterDown, a_inTouch, a_promise, a_base, a_logLength, a_logEpoch, a_logKind, a_logA, a_logB, a_logC, a_inodeState, a_inodePlace, a_inodeClient, a_closeUnits, a_rowLength, a_rowBlock, a_blockStamp, a_replicaHeld, a_replicaStamp, a_unitCount, a_unitValue⟩ := u
  refine ix_t hn rfl (by decide) (fun hlt e => ?_) (fun e => h0 (fun z => by omega))
  subst e
  have hb := qt_iv3 hI n hlt
  exact ⟨vp_in_nI hlt (by decide), cd_if (cd_e (c := 0) (qt_ag1 h n hlt) (by omega) (by omega) (by decide)) (fun z => h0 (fun _ => z)) (fun z => h1 hlt z)⟩
theorem xm_isDirectory {T : qt_T} {u : SX} (h : sx_T T u) (hI : qt_iv T) {post : Int32 → Prop} {i : Int32} {n : Nat} (hn : ix_c i 12 n) (h1 : n < 12 → qt_so T n = 1 → post 1) (h0 : (n < 12 → qt_so T n ≠ 1) → post 0) : wpX_isDirectory post u i := by
  obtain ⟨f_active, f_epoch, a_dataNodeDown, a_journalDown, a_masterDown, a_inTouch, a_promise, a_base, a_logLength, a_logEpoch, a_logKind, a_logA, a_logB, a_logC, a_inodeState, a_inodePlace, a_inodeClient, a_closeUnits, a_rowLength, a_rowBlock, a_blockStamp, a_replicaHeld, a_replicaStamp, a_unitCount, a_unitValue⟩ := u
  unfold wpX_isDirectory
  refine xm_isPresent (u := (f_active, f_epoch, a_dataNodeDown, a_journalDown, a_masterDown, a_inTouch, a_promise, a_base, a_logLength, a_logEpoch, a_logKind, a_logA, a_logB, a_logC, a_inodeState, a_inodePlace, a_inodeClient, a_closeUnits, a_rowLength, a_rowBlock, a_blockStamp, a_replicaHeld, a_replicaStamp, a_unitCount, a_unitValue)) h hI hn (fun hlt hs => br_f bo_1 ?_) (fun hs => br_t rfl (h0 (fun hlt z => by have := hs hlt; omega)))
  have e := ix_i hn hlt
  subst e
  have hb := qt_iv3 hI n hlt
  exact ⟨vp_in_nI hlt (by decide), cd_if (cd_e (c := 1) (qt_ag1 h n hlt) (by omega) (by omega) (by decide)) (fun z => h1 hlt z) (fun z => h0 (fun _ => z))⟩
theorem xm_isFile {T : qt_T} {u : SX} (h : sx_T T u) (hI : qt_iv T) {post : Int32 → Prop} {i : Int32} {n : Nat} (hn : ix_c i 12 n) (h1 : n < 12 → 2 ≤ qt_so T n → post 1) (h0 : (n < 12 → qt_so T n < 2) → post 0) : wpX_isFile post u i := by
  obtain ⟨f_active, f_epoch, a_dataNodeDown, a_journalDown, a_masterDown, a_inTouch, a_promise, a_base, a_logLength, a_logEpoch, a_logKind, a_logA, a_logB, a_logC, a_inodeState, a_inodePlace, a_inodeClient, a_closeUnits, a_rowLength, a_rowBlock, a_blockStamp, a_replicaHeld, a_replicaStamp, a_unitCount, a_unitValue⟩ := u
  unfold wpX_isFile
  refine xm_isPresent (u := (f_active, f_epoch, a_dataNodeDown, a_journalDown, a_masterDown, a_inTouch, a_promise, a_base, a_logLength, a_logEpoch, a_logKind, a_logA, a_logB, a_logC, a_inodeState, a_inodePlace, a_inodeClient, a_closeUnits, a_rowLength, a_rowBlock, a_blockStamp, a_replicaHeld, a_replicaStamp, a_unitCount, a_unitValue)) h hI hn (fun hlt hs => br_f bo_1 ?_) (fun hs => br_t rfl (h0 (fun hlt => by have := hs hlt; omega)))
  have e := ix_i hn hlt
  subst e
  have hb := qt_iv3 hI n hlt
  exact ⟨vp_in_nI hlt (by decide), cd_if (cd_e (c := 1) (qt_ag1 h n hlt) (by omega) (by omega) (by decide)) (fun z => h0 (fun _ => by omega)) (fun z => h1 hlt (by omega))⟩
theorem xm_isOpen {T : qt_T} {u : SX} (h : sx_T T u) (hI : qt_iv T) {post : Int32 → Prop} {i : Int32} {n : Nat} (hn : ix_c i 12 n) (h1 : n < 12 → qt_so T n = 2 → post 1) (h0 : (n < 12 → qt_so T n ≠ 2) → post 0) : wpX_isOpen post u i := by
  obtain ⟨f_active, f_epoch, a_dataNodeDown, a_journalDown, a_masterDown, a_inTouch, a_promise, a_base, a_logLength, a_logEpoch, a_logKind, a_logA, a_logB, a_logC, a_inodeState, a_inodePlace, a_inodeClient, a_closeUnits, a_rowLength, a_rowBlock, a_blockStamp, a_replicaHeld, a_replicaStamp, a_unitCount, a_unitValue⟩ := u
  unfold wpX_isOpen
  refine xm_isPresent (u := (f_active, f_epoch, a_dataNodeDown, a_journalDown, a_masterDown, a_inTouch, a_promise, a_base, a_logLength, a_logEpoch, a_logKind, a_logA, a_logB, a_logC, a_inodeState, a_inodePlace, a_inodeClient, a_closeUnits, a_rowLength, a_rowBlock, a_blockStamp, a_replicaHeld, a_replicaStamp, a_unitCount, a_unitValue)) h hI hn (fun hlt hs => br_f bo_1 ?_) (fun hs => br_t rfl (h0 (fun hlt z => by have := hs hlt; omega)))
  have e := ix_i hn hlt
  subst e
  have hb := qt_iv3 hI n hlt
  exact ⟨vp_in_nI hlt (by decide), cd_if (cd_e (c := 2) (qt_ag1 h n hlt) (by omega) (by omega) (by decide)) (fun z => h1 hlt z) (fun z => h0 (fun _ => z))⟩
end
section
/-! reading the tables: the component, loops -/
theorem mu_r (D K N : Nat) : nI D * nI K + nI N = nI (K * D + N) := by rw [pk_mul, nI_add, Nat.mul_comm]
theorem mu_l (D K N : Nat) : nI K * nI D + nI N = nI (K * D + N) := by rw [pk_mul, nI_add]
theorem lb_f {d N : Nat} (h : d < N) (hN : N < 2 ^ 31 := by decide) : ¬ nI N ≤ nI d := nI_ge h hN
theorem lb_t {N : Nat} : nI N ≤ nI N := Int32.le_refl _
theorem ls_vS {N m : Nat} (h : m < N) : ls_v N m = nI m := if_pos h
theorem ls_vN {N : Nat} : ls_v N N = -1 := if_neg (Nat.lt_irrefl N)
theorem xm_inodeAt {T : qt_T} {u : SX} (h : sx_T T u) (hI : qt_iv T) {post : Int32 → Prop} {D N m : Nat} (hD : D < 12) (hN : N < 8) (hm : ls_f (fun i => 1 ≤ i ∧ qt_so T i ≠ 0 ∧ qt_pl T i = 8 * D + N + 1) 12 m) (hp : post (ls_v 12 m)) : wpX_inodeAt post u (nI D) (nI N) := by
  obtain ⟨f_active, f_epoch, a_dataNodeDown, a_journalDown, a_masterDown, a_inTouch, a_promise, a_base, a_logLength, a_logEpoch, a_logKind, a_logA, a_logB, a_logC, a_inodeState, a_inodePlace, a_inodeClient, a_closeUnits, a_rowLength, a_rowBlock, a_blockStamp, a_replicaHeld, a_replicaStamp, a_unitCount, a_unitValue⟩ := u
  refine nm_r (mu_r D 8 N) ⟨13, lq_s (fun n d => wX_inodeAt_10 post (nI (8 * D + N)) f_active f_epoch a_dataNodeDown a_journalDown a_masterDown a_inTouch a_promise a_base a_logLength a_logEpoch a_logKind a_logA a_logB a_logC a_inodeState a_inodePlace a_inodeClient a_closeUnits a_rowLength a_rowBlock a_blockStamp a_replicaHeld a_replicaStamp a_unitCount a_unitValue n (nI d)) 12 m hm.1 (fun n e => ?_) (fun n hlt => ?_) (fun n d hd H => ?_) 13 0 (by omega) (by omega)⟩
  · subst e
    rw [ls_vN] at hp
    exact br_t lb_t hp
  · have hb := qt_iv3 hI m hlt
    obtain ⟨p1, p2, p3⟩ := hm.2.2 hlt
    rw [ls_vS hlt] at hp
    exact br_f (lb_f hlt) ⟨vp_in_nI hlt (by decide), br_f ((not_congr (cd_e (c := 0) (qt_ag1 h m hlt) (by omega) (by omega) (by decide))).mpr p2) ⟨vp_in_nI hlt (by decide), br_t ((cd_me (qt_ag2 h m hlt) (by omega) (by omega) (by omega)).mpr p3) hp⟩⟩
  · have hlt : d < 12 := by have := hm.1; omega
    have hb := qt_iv3 hI d hlt
    have hnp := hm.2.1 d hd
    refine br_f (lb_f hlt) ⟨vp_in_nI hlt (by decide), cd_if (cd_e (c := 0) (qt_ag1 h d hlt) (by omega) (by omega) (by decide)) (fun z => nm_r (nI_1 d) H) (fun z => ⟨vp_in_nI hlt (by decide), br_f ?_ (nm_r (nI_1 d) H)⟩)⟩
    by_cases h0 : d = 0
    · subst h0
      rw [cd_me (qt_ag2 h 0 hlt) (by omega) (by rw [qt_iv2 hI]; decide) (by omega), qt_iv2 hI]
      omega
    · have hp6 := qt_iv6 hI d (by omega) hlt z
      rw [cd_me (qt_ag2 h d hlt) (by omega) (by omega) (by omega)]
      exact fun y => hnp ⟨by omega, z, y⟩
/-- a name in a directory that is free -/
def qt_fr (T : qt_T) (d x : Nat) : Prop := d < 12 ∧ x < 8 ∧ qt_so T d = 1 ∧ ∀ i, 1 ≤ i → i < 12 → qt_so T i ≠ 0 → qt_pl T i ≠ 8 * d + x + 1
theorem xm_isFreePlace {T : qt_T} {u : SX} (h : sx_T T u) (hI : qt_iv T) {post : Int32 → Prop} {p q : Int32} {d x : Nat} (hd : ix_c p 12 d) (hx : ix_c q 8 x) (h1 : qt_fr T d x → post 1) (h0 : ¬ qt_fr T d x → post 0) : wpX_isFreePlace post u p q := by
  obtain ⟨f_active, f_epoch, a_dataNodeDown, a_journalDown, a_masterDown, a_inTouch, a_promise, a_base, a_logLength, a_logEpoch, a_logKind, a_logA, a_logB, a_logC, a_inodeState, a_inodePlace, a_inodeClient, a_closeUnits, a_rowLength, a_rowBlock, a_blockStamp, a_replicaHeld, a_replicaStamp, a_unitCount, a_unitValue⟩ := u
  unfold wpX_isFreePlace
  refine xm_isDirectory (u := (f_active, f_epoch, a_dataNodeDown, a_journalDown, a_masterDown, a_inTouch, a_promise, a_base, a_logLength, a_logEpoch, a_logKind, a_logA, a_logB, a_logC, a_inodeState, a_inodePlace, a_inodeClient, a_closeUnits, a_rowLength, a_rowBlock, a_blockStamp, a_replicaHeld, a_replicaStamp, a_unitCount, a_unitValue)) h hI hd (fun hlt hs => br_f bo_1 ?_) (fun hs => br_t rfl (h0 (fun z => hs z.1 z.2.2.1)))
  refine ix_t hx rfl (by decide) (fun hl e => ?_) (fun e => h0 (fun z => by have := z.2.1; omega))
  have e' := ix_i hd hlt
  subst e e'
  obtain ⟨m, hm⟩ := ls_ex (fun i => 1 ≤ i ∧ qt_so T i ≠ 0 ∧ qt_pl T i = 8 * d + x + 1) 12
  refine xm_inodeAt (u := (f_active, f_epoch, a_dataNodeDown, a_journalDown, a_masterDown, a_inTouch, a_promise, a_base, a_logLength, a_logEpoch, a_logKind, a_logA, a_logB, a_logC, a_inodeState, a_inodePlace, a_inodeClient, a_closeUnits, a_rowLength, a_rowBlock, a_blockStamp, a_replicaHeld, a_replicaStamp, a_unitCount, a_unitValue)) h hI hlt hl hm ?_
  by_cases hmm : m < 12
  · rw [ls_vS hmm]
    exact br_f (ix_m1 (by omega)) (h0 (fun z => z.2.2.2 m (hm.2.2 hmm).1 hmm (hm.2.2 hmm).2.1 (hm.2.2 hmm).2.2))
  · have e : m = 12 := by have := hm.1; omega
    subst e
    rw [ls_vN]
    exact br_t rfl (h1 ⟨hlt, hl, hs, fun i i1 i2 i3 i4 => hm.2.1 i i2 ⟨i1, i3, i4⟩⟩)
theorem xm_leastAbsentInode {T : qt_T} {u : SX} (h : sx_T T u) (hI : qt_iv T) {post : Int32 → Prop} {m : Nat} (hm : ls_f (fun i => qt_so T i = 0) 12 m) (hp : post (ls_v 12 m)) : wpX_leastAbsentInode post u := by
  obtain ⟨f_active, f_epoch, a_dataNodeDown, a_journalDown, a_masterDown, a_inTouch, a_promise, a_base, a_logLength, a_logEpoch, a_logKind, a_logA, a_logB, a_logC, a_inodeState, a_inodePlace, a_inodeClient, a_closeUnits, a_rowLength, a_rowBlock, a_blockStamp, a_replicaHeld, a_replicaStamp, a_unitCount, a_unitValue⟩ := u
  refine ⟨13, lq_s (fun n d => wX_leastAbsentInode_2 post f_active f_epoch a_dataNodeDown a_journalDown a_masterDown a_inTouch a_promise a_base a_logLength a_logEpoch a_logKind a_logA a_logB a_logC a_inodeState a_inodePlace a_inodeClient a_closeUnits a_rowLength a_rowBlock a_blockStamp a_replicaHeld a_replicaStamp a_unitCount a_unitValue n (nI d)) 12 m hm.1 (fun n e => ?_) (fun n hlt => ?_) (fun n d hd H => ?_) 13 0 (by omega) (by omega)⟩
  · subst e
    rw [ls_vN] at hp
    exact br_t lb_t hp
  · have hb := qt_iv3 hI m hlt
    rw [ls_vS hlt] at hp
    exact br_f (lb_f hlt) ⟨vp_in_nI hlt (by decide), br_t ((cd_e (c := 0) (qt_ag1 h m hlt) (by omega) (by omega) (by decide)).mpr (hm.2.2 hlt)) hp⟩
  · have hlt : d < 12 := by have := hm.1; omega
    have hb := qt_iv3 hI d hlt
    exact br_f (lb_f hlt) ⟨vp_in_nI hlt (by decide), br_f ((not_congr (cd_e (c := 0) (qt_ag1 h d hlt) (by omega) (by omega) (by decide))).mpr (hm.2.1 d hd)) (nm_r (nI_1 d) H)⟩
theorem xm_directoryOf {T : qt_T} {u : SX} (h : sx_T T u) (hI : qt_iv T) {post : Int32 → Prop} {d : Nat} (hd : d < 12) (hs : qt_so T d ≠ 0) (h0 : d = 0 → post (-1)) (h1 : 1 ≤ d → post (nI (qt_pa (qt_pl T) d))) : wpX_directoryOf post u (nI d) := by
  obtain ⟨f_active, f_epoch, a_dataNodeDown, a_journalDown, a_masterDown, a_inTouch, a_promise, a_base, a_logLength, a_logEpoch, a_logKind, a_logA, a_logB, a_logC, a_inodeState, a_inodePlace, a_inodeClient, a_closeUnits, a_rowLength, a_rowBlock, a_blockStamp, a_replicaHeld, a_replicaStamp, a_unitCount, a_unitValue⟩ := u
  by_cases hz : d = 0
  · subst hz
    exact ⟨vp_in_nI hd (by decide), br_t ((cd_m1 (qt_ag2 h 0 hd) (by omega) (by rw [qt_iv2 hI]; decide)).mpr (qt_iv2 hI)) (h0 rfl)⟩
  · have h6 := qt_iv6 hI d (by omega) hd hs
    refine ⟨vp_in_nI hd (by decide), br_f ?_ ⟨vp_in_nI hd (by decide), by decide, ?_⟩⟩
    · rw [cd_m1 (qt_ag2 h d hd) (by omega) (by omega)]; omega
    · have e : a_inodePlace (nI d).toNatClampNeg / 8 = nI (qt_pa (qt_pl T) d) := by
        rw [nI_clamp (by omega), qt_ag2 h d hd]
        obtain ⟨p, hp⟩ : ∃ p, qt_pl T d = p + 1 := ⟨qt_pl T d - 1, by omega⟩
        unfold qt_pa
        rw [hp, qt_ms]
        exact pk_div (d := 8) (by omega) (by decide) (by decide)
      rw [e]
      exact h1 (by omega)
def qt_ef (T : qt_T) (D : Nat) (i : Nat) : Bool := decide (1 ≤ i ∧ qt_so T i ≠ 0 ∧ qt_pa (qt_pl T) i = D)
theorem rd_cnS (f : Nat → Bool) (n : Nat) : rd_cn f (n + 1) = rd_cn f n + (if f n then 1 else 0) := rfl
theorem rd_cnT {f : Nat → Bool} {n : Nat} (h : f n = true) : nI (rd_cn f n) + 1 = nI (rd_cn f (n + 1)) := by rw [rd_cnS, h, nI_1]; rfl
theorem rd_cnF {f : Nat → Bool} {n : Nat} (h : f n = false) : rd_cn f (n + 1) = rd_cn f n := by rw [rd_cnS, h]; rfl
theorem xm_countEntries {T : qt_T} {u : SX} (h : sx_T T u) (hI : qt_iv T) {post : Int32 → Prop} {D : Nat} (hD : D < 12) (hp : post (nI (rd_cn (qt_ef T D) 12))) : wpX_countEntries post u (nI D) := by
  obtain ⟨f_active, f_epoch, a_dataNodeDown, a_journalDown, a_masterDown, a_inTouch, a_promise, a_base, a_logLength, a_logEpoch, a_logKind, a_logA, a_logB, a_logC, a_inodeState, a_inodePlace, a_inodeClient, a_closeUnits, a_rowLength, a_rowBlock, a_blockStamp, a_replicaHeld, a_replicaStamp, a_unitCount, a_unitValue⟩ := u
  refine ⟨13, lq_f (fun n d s => wX_countEntries_4 post (nI D) f_active f_epoch a_dataNodeDown a_journalDown a_masterDown a_inTouch a_promise a_base a_logLength a_logEpoch a_logKind a_logA a_logB a_logC a_inodeState a_inodePlace a_inodeClient a_closeUnits a_rowLength a_rowBlock a_blockStamp a_replicaHeld a_replicaStamp a_unitCount a_unitValue n s (nI d)) 12 (fun d => nI (rd_cn (qt_ef T D) d)) (fun n => br_t lb_t hp) (fun n d hd H => ?_) 13 0 (by omega) (by omega)⟩
  have hb := qt_iv3 hI d hd
  have hF : qt_ef T D d = false → wX_countEntries_4 post (nI D) f_active f_epoch a_dataNodeDown a_journalDown a_masterDown a_inTouch a_promise a_base a_logLength a_logEpoch a_logKind a_logA a_logB a_logC a_inodeState a_inodePlace a_inodeClient a_closeUnits a_rowLength a_rowBlock a_blockStamp a_replicaHeld a_replicaStamp a_unitCount a_unitValue n (nI (rd_cn (qt_ef T D) d)) (nI (d + 1)) := by
    intro z
    rw [← rd_cnF z]; exact H
  refine br_f (lb_f hd) ⟨vp_in_nI hd (by decide), cd_if (cd_e (c := 0) (qt_ag1 h d hd) (by omega) (by omega) (by decide)) (fun z => nm_r (nI_1 d) (hF ?_)) (fun z => ?_)⟩
  · unfold qt_ef; exact decide_eq_false (fun y => y.2.1 z)
  · refine xm_directoryOf (u := (f_active, f_epoch, a_dataNodeDown, a_journalDown, a_masterDown, a_inTouch, a_promise, a_base, a_logLength, a_logEpoch, a_logKind, a_logA, a_logB, a_logC, a_inodeState, a_inodePlace, a_inodeClient, a_closeUnits, a_rowLength, a_rowBlock, a_blockStamp, a_replicaHeld, a_replicaStamp, a_unitCount, a_unitValue)) h hI hd z (fun e => br_f ?_ (nm_r (nI_1 d) (hF ?_))) (fun e => ?_)
    · exact fun y => ix_m1 (n := D) (by omega) y.symm
    · unfold qt_ef; exact decide_eq_false (fun y => by omega)
    · have h6 := qt_iv6 hI d e hd z
      have hp : qt_pa (qt_pl T) d < 12 := by unfold qt_pa; omega
      refine cd_if (nI_eq (by omega) (by omega)) (fun y => ?_) (fun y => nm_r (nI_1 d) (hF ?_))
      · have hf : qt_ef T D d = true := by unfold qt_ef; exact decide_eq_true ⟨e, z, y⟩
        exact nm_r (rd_cnT hf) (nm_r (nI_1 d) H)
      · unfold qt_ef; exact decide_eq_false (fun x => y x.2.2)
def qt_rm (T : qt_T) (n : Nat) : Prop := 1 ≤ n ∧ n < 12 ∧ (qt_so T n = 3 ∨ (qt_so T n = 1 ∧ rd_cn (qt_ef T n) 12 = 0))
theorem xm_canBeRemoved {T : qt_T} {u : SX} (h : sx_T T u) (hI : qt_iv T) {post : Int32 → Prop} {i : Int32} {n : Nat} (hn : ix_c i 12 n) (h1 : qt_rm T n → post 1) (h0 : ¬ qt_rm T n → post 0) : wpX_canBeRemoved post u i := by
  obtain ⟨f_active, f_epoch, a_dataNodeDown, a_journalDown, a_masterDown, a_inTouch, a_promise, a_base, a_logLength, a_logEpoch, a_logKind, a_logA, a_logB, a_logC, a_inodeState, a_inodePlace, a_inodeClient, a_closeUnits, a_rowLength, a_rowBlock, a_blockStamp, a_replicaHeld, a_replicaStamp, a_unitCount, a_unitValue⟩ := u
  unfold wpX_canBeRemoved
  refine xm_isPresent (u := (f_active, f_epoch, a_dataNodeDown, a_journalDown, a_masterDown, a_inTouch, a_promise, a_base, a_logLength, a_logEpoch, a_logKind, a_logA, a_logB, a_logC, a_inodeState, a_inodePlace, a_inodeClient, a_closeUnits, a_rowLength, a_rowBlock, a_blockStamp, a_replicaHeld, a_replicaStamp, a_unitCount, a_unitValue)) h hI hn (fun hlt hs => br_f bo_1 ?_) (fun hs => br_t rfl (h0 (fun z => by have := hs z.2.1; rcases z.2.2 with y | y <;> omega)))
  have e := ix_i hn hlt
  subst e
  have hb := qt_iv3 hI n hlt
  refine cd_if (nI_eq (b := 0) (by omega) (by decide)) (fun z => h0 (fun y => by have := y.1; omega)) (fun z => ⟨vp_in_nI hlt (by decide), cd_if (cd_e (c := 2) (qt_ag1 h n hlt) (by omega) (by omega) (by decide)) (fun y => h0 (fun x => by rcases x.2.2 with w | w <;> omega)) (fun y => ⟨vp_in_nI hlt (by decide), cd_if (cd_e (c := 3) (qt_ag1 h n hlt) (by omega) (by omega) (by decide)) (fun x => h1 ⟨by omega, hlt, Or.inl x⟩) (fun x => ?_)⟩)⟩)
  have hc := rd_cnL (qt_ef T n) 12
  refine xm_countEntries (u := (f_active, f_epoch, a_dataNodeDown, a_journalDown, a_masterDown, a_inTouch, a_promise, a_base, a_logLength, a_logEpoch, a_logKind, a_logA, a_logB, a_logC, a_inodeState, a_inodePlace, a_inodeClient, a_closeUnits, a_rowLength, a_rowBlock, a_blockStamp, a_replicaHeld, a_replicaStamp, a_unitCount, a_unitValue)) h hI hlt (cd_if (nI_eq (b := 0) (by omega) (by decide)) (fun w => h1 ⟨by omega, hlt, Or.inr ⟨by omega, w⟩⟩) (fun w => h0 (fun v => ?_)))
  rcases v.2.2 with v | v
  · exact x v
  · exact w v.2
theorem xm_isAtOrBelow {T : qt_T} {u : SX} (h : sx_T T u) (hI : qt_iv T) {post : Int32 → Prop} {D i : Nat} (hD : D < 12) (hs : qt_so T D ≠ 0) (hi : 1 ≤ i) (hi2 : i < 12) (h1 : (∃ n, qt_an (qt_pl T) n D = i) → post 1) (h0 : (∀ n, qt_an (qt_pl T) n D ≠ i) → post 0) : wpX_isAtOrBelow post u (nI D) (nI i) := by
  obtain ⟨f_active, f_epoch, a_dataNodeDown, a_journalDown, a_masterDown, a_inTouch, a_promise, a_base, a_logLength, a_logEpoch, a_logKind, a_logA, a_logB, a_logC, a_inodeState, a_inodePlace, a_inodeClient, a_closeUnits, a_rowLength, a_rowBlock, a_blockStamp, a_replicaHeld, a_replicaStamp, a_unitCount, a_unitValue⟩ := u
  obtain ⟨r, hr, hb⟩ := qt_iv7 hI
  have key : ∀ k n s x, s + k = 12 → r x < k → k + 1 < n → x < 12 → qt_so T x ≠ 0 → ((∃ n, qt_an (qt_pl T) n x = i) → post 1) → ((∀ n, qt_an (qt_pl T) n x ≠ i) → post 0) → wX_isAtOrBelow_5 post (nI i) f_active f_epoch a_dataNodeDown a_journalDown a_masterDown a_inTouch a_promise a_base a_logLength a_logEpoch a_logKind a_logA a_logB a_logC a_inodeState a_inodePlace a_inodeClient a_closeUnits a_rowLength a_rowBlock a_blockStamp a_replicaHeld a_replicaStamp a_unitCount a_unitValue n (nI x) (nI s) := by
    intro k
    induction k with
    | zero => intro n s x _ h; omega
    | succ k ih =>
      intro n s x hs hrx hn hx hsx k1 k0
      obtain ⟨n, rfl⟩ : ∃ n', n = n' + 1 := ⟨n - 1, by omega⟩
      refine br_f (lb_f (N := 12) (by omega)) (br_f (ix_m1 (by omega)) (cd_if (nI_eq (by omega) (by omega)) (fun e => k1 ⟨0, e⟩) (fun ne => ?_)))
      refine xm_directoryOf (u := (f_active, f_epoch, a_dataNodeDown, a_journalDown, a_masterDown, a_inTouch, a_promise, a_base, a_logLength, a_logEpoch, a_logKind, a_logA, a_logB, a_logC, a_inodeState, a_inodePlace, a_inodeClient, a_closeUnits, a_rowLength, a_rowBlock, a_blockStamp, a_replicaHeld, a_replicaStamp, a_unitCount, a_unitValue)) h hI hx hsx (fun e => nm_r (nI_1 s) ?_) (fun e => nm_r (nI_1 s) ?_)
      · obtain ⟨n, rfl⟩ : ∃ n', n = n' + 1 := ⟨n - 1, by omega⟩
        have hz : post 0 := by
          refine k0 (fun n hn => ?_)
          have hz : ∀ n, qt_an (qt_pl T) n 0 = 0 := by
            intro n
            induction n with
            | zero => rfl
            | succ n ih =>
              rw [qt_anS, show qt_pa (qt_pl T) 0 = 0 by unfold qt_pa; rw [qt_iv2 hI]]
              exact ih
          rw [e, hz] at hn
          omega
        exact br_c (fun _ => hz) (fun _ => br_t rfl hz)
      · have h6 := qt_iv6 hI x e hx hsx
        refine ih n (s + 1) (qt_pa (qt_pl T) x) (by omega) ?_ (by omega) (by unfold qt_pa; omega) (by rw [h6.2.2]; decide) (fun ⟨n, hn⟩ => k1 ⟨n + 1, hn⟩) (fun hn => k0 (fun n => ?_))
        · have := hr x e hx hsx; omega
        · cases n with
          | zero => exact ne
          | succ n => exact hn n
  have := hb D hD
  exact ⟨14, key 12 14 0 D (by omega) this (by omega) hD hs h1 h0⟩
theorem xm_countInodes {T : qt_T} {u : SX} (h : sx_T T u) (hI : qt_iv T) {post : Int32 → Prop} (hp : post (nI (rd_cn (fun i => decide (qt_so T i ≠ 0)) 12))) : wpX_countInodes post u := by
  obtain ⟨f_active, f_epoch, a_dataNodeDown, a_journalDown, a_masterDown, a_inTouch, a_promise, a_base, a_logLength, a_logEpoch, a_logKind, a_logA, a_logB, a_logC, a_inodeState, a_inodePlace, a_inodeClient, a_closeUnits, a_rowLength, a_rowBlock, a_blockStamp, a_replicaHeld, a_replicaStamp, a_unitCount, a_unitValue⟩ := u
  refine ⟨13, lq_f (fun n d s => wX_countInodes_4 post f_active f_epoch a_dataNodeDown a_journalDown a_masterDown a_inTouch a_promise a_base a_logLength a_logEpoch a_logKind a_logA a_logB a_logC a_inodeState a_inodePlace a_inodeClient a_closeUnits a_rowLength a_rowBlock a_blockStamp a_replicaHeld a_replicaStamp a_unitCount a_unitValue n s (nI d)) 12 (fun d => nI (rd_cn (fun i => decide (qt_so T i ≠ 0)) d)) (fun n => br_t lb_t hp) (fun n d hd H => ?_) 13 0 (by omega) (by omega)⟩
  have hb := qt_iv3 hI d hd
  refine br_f (lb_f hd) ⟨vp_in_nI hd (by decide), cd_if (cd_e (c := 0) (qt_ag1 h d hd) (by omega) (by omega) (by decide)) (fun z => nm_r (nI_1 d) ?_) (fun z => nm_r (rd_cnT (f := fun i => decide (qt_so T i ≠ 0)) (decide_eq_true z)) (nm_r (nI_1 d) H))⟩
  rw [← rd_cnF (f := fun i => decide (qt_so T i ≠ 0)) (decide_eq_false (fun y => y z))]
  exact H
theorem xm_lastBlock {T : qt_T} {u : SX} (h : sx_T T u) (hI : qt_iv T) {post : Int32 → Prop} {f : Nat} (hf : f < 12) (h0 : qt_rl T f = 0 → post (-1)) (h1 : 0 < qt_rl T f → post (nI (qt_ro T (3 * f + (qt_rl T f - 1))))) : wpX_lastBlock post u (nI f) := by
  obtain ⟨f_active, f_epoch, a_dataNodeDown, a_journalDown, a_masterDown, a_inTouch, a_promise, a_base, a_logLength, a_logEpoch, a_logKind, a_logA, a_logB, a_logC, a_inodeState, a_inodePlace, a_inodeClient, a_closeUnits, a_rowLength, a_rowBlock, a_blockStamp, a_replicaHeld, a_replicaStamp, a_unitCount, a_unitValue⟩ := u
  have hb := qt_iv4 hI f hf
  refine ⟨vp_in_nI hf (by decide), cd_if (cd_e (c := 0) (qt_ag5 h f hf) (by omega) (by omega) (by decide)) h0 (fun z => ⟨vp_in_nI hf (by decide), ?_⟩)⟩
  have e : nI f * 3 + a_rowLength (nI f).toNatClampNeg - 1 = nI (3 * f + (qt_rl T f - 1)) := by
    rw [nI_clamp (by omega), qt_ag5 h f hf, show (3 : Int32) = nI 3 from rfl, mu_r, show 3 * f + qt_rl T f = (3 * f + (qt_rl T f - 1)) + 1 by omega, nI_pred]
  rw [e]
  refine ⟨vp_in_nI (by omega) (by decide), ?_⟩
  rw [nI_clamp (by omega), qt_ag6 h f (qt_rl T f - 1) hf (by omega)]
  exact h1 (by omega)
theorem xm_isInRow {T : qt_T} {u : SX} (h : sx_T T u) (hI : qt_iv T) {post : Int32 → Prop} {b : Nat} (hb : b < 16) (h1 : qt_in (qt_rl T) (qt_ro T) b → post 1) (h0 : ¬ qt_in (qt_rl T) (qt_ro T) b → post 0) : wpX_isInRow post u (nI b) := by
  obtain ⟨f_active, f_epoch, a_dataNodeDown, a_journalDown, a_masterDown, a_inTouch, a_promise, a_base, a_logLength, a_logEpoch, a_logKind, a_logA, a_logB, a_logC, a_inodeState, a_inodePlace, a_inodeClient, a_closeUnits, a_rowLength, a_rowBlock, a_blockStamp, a_replicaHeld, a_replicaStamp, a_unitCount, a_unitValue⟩ := u
  have inner : ∀ (J : Int32 → Prop) f, f < 12 → ∀ k n j, j + k = qt_rl T f → k < n → ((∀ i, j ≤ i → i < qt_rl T f → qt_ro T (3 * f + i) ≠ b) → J (nI (f + 1))) → wX_isInRow_18 post J (nI b) (nI f) (nI (qt_rl T f)) f_active f_epoch a_dataNodeDown a_journalDown a_masterDown a_inTouch a_promise a_base a_logLength a_logEpoch a_logKind a_logA a_logB a_logC a_inodeState a_inodePlace a_inodeClient a_closeUnits a_rowLength a_rowBlock a_blockStamp a_replicaHeld a_replicaStamp a_unitCount a_unitValue n (nI j) := by
    intro J f hf k
    have hr := qt_iv4 hI f hf
    induction k with
    | zero =>
      intro n j hj hn HJ
      obtain ⟨n, rfl⟩ : ∃ n', n = n' + 1 := ⟨n - 1, by omega⟩
      have e : j = qt_rl T f := by omega
      subst e
      exact br_t lb_t (nm_r (nI_1 f) (HJ (fun i a b => by omega)))
    | succ k ih =>
      intro n j hj hn HJ
      obtain ⟨n, rfl⟩ : ∃ n', n = n' + 1 := ⟨n - 1, by omega⟩
      have h5 := qt_iv5 hI f j hf (by omega)
      refine br_f (lb_f (by omega) (by omega)) ?_
      rw [show nI f * 3 + nI j = nI (3 * f + j) from mu_r f 3 j]
      refine ⟨vp_in_nI (by omega) (by decide), cd_if (cd_e (qt_ag6 h f j hf (by omega)) (by omega) (by omega) (by omega)) (fun z => h1 ⟨f, j, hf, by omega, z⟩) (fun z => nm_r (nI_1 j) (ih n (j + 1) (by omega) (by omega) (fun H => HJ (fun i a b => ?_))))⟩
      by_cases e : i = j
      · subst e; exact z
      · exact H i (by omega) b
  have outer : ∀ k n f, f + k = 12 → k < n → (∀ g, g < f → ∀ i, i < qt_rl T g → qt_ro T (3 * g + i) ≠ b) → wX_isInRow_2 post (nI b) f_active f_epoch a_dataNodeDown a_journalDown a_masterDown a_inTouch a_promise a_base a_logLength a_logEpoch a_logKind a_logA a_logB a_logC a_inodeState a_inodePlace a_inodeClient a_closeUnits a_rowLength a_rowBlock a_blockStamp a_replicaHeld a_replicaStamp a_unitCount a_unitValue n (nI f) := by
    intro k
    induction k with
    | zero =>
      intro n f hf hn H
      obtain ⟨n, rfl⟩ : ∃ n', n = n' + 1 := ⟨n - 1, by omega⟩
      have e : f = 12 := by omega
      subst e
      exact br_t lb_t (h0 (fun ⟨g, i, hg, hi, z⟩ => H g hg i hi z))
    | succ k ih =>
      intro n f hf hn H
      obtain ⟨n, rfl⟩ : ∃ n', n = n' + 1 := ⟨n - 1, by omega⟩
      have hf' : f < 12 := by omega
      have hr := qt_iv4 hI f hf'
      refine br_f (lb_f hf') ⟨vp_in_nI hf' (by decide), nm_r (e' := nI (qt_rl T f)) (by rw [nI_clamp (by omega)]; exact qt_ag5 h f hf') ⟨4, inner _ f hf' (qt_rl T f) 4 0 (by omega) (by omega) (fun H' => ih n (f + 1) (by omega) (by omega) (fun g hg i hi => ?_))⟩⟩
      by_cases e : g = f
      · subst e; exact H' i (by omega) hi
      · exact H g (by omega) i hi
  exact ⟨13, outer 12 13 0 (by omega) (by omega) (fun g hg => by omega)⟩
theorem xm_leastFreeBlock {T : qt_T} {u : SX} (h : sx_T T u) (hI : qt_iv T) {post : Int32 → Prop} {m : Nat} (hm : ls_f (fun b => ¬ qt_in (qt_rl T) (qt_ro T) b) 16 m) (hp : post (ls_v 16 m)) : wpX_leastFreeBlock post u := by
  obtain ⟨f_active, f_epoch, a_dataNodeDown, a_journalDown, a_masterDown, a_inTouch, a_promise, a_base, a_logLength, a_logEpoch, a_logKind, a_logA, a_logB, a_logC, a_inodeState, a_inodePlace, a_inodeClient, a_closeUnits, a_rowLength, a_rowBlock, a_blockStamp, a_replicaHeld, a_replicaStamp, a_unitCount, a_unitValue⟩ := u
  refine ⟨17, lq_s (fun n d => wX_leastFreeBlock_2 post f_active f_epoch a_dataNodeDown a_journalDown a_masterDown a_inTouch a_promise a_base a_logLength a_logEpoch a_logKind a_logA a_logB a_logC a_inodeState a_inodePlace a_inodeClient a_closeUnits a_rowLength a_rowBlock a_blockStamp a_replicaHeld a_replicaStamp a_unitCount a_unitValue n (nI d)) 16 m hm.1 (fun n e => ?_) (fun n hlt => ?_) (fun n d hd H => ?_) 17 0 (by omega) (by omega)⟩
  · subst e
    rw [ls_vN] at hp
    exact br_t lb_t hp
  · rw [ls_vS hlt] at hp
    exact br_f (lb_f hlt) (xm_isInRow (u := (f_active, f_epoch, a_dataNodeDown, a_journalDown, a_masterDown, a_inTouch, a_promise, a_base, a_logLength, a_logEpoch, a_logKind, a_logA, a_logB, a_logC, a_inodeState, a_inodePlace, a_inodeClient, a_closeUnits, a_rowLength, a_rowBlock, a_blockStamp, a_replicaHeld, a_replicaStamp, a_unitCount, a_unitValue)) h hI hlt (fun z => absurd z (hm.2.2 hlt)) (fun _ => br_t rfl hp))
  · have hlt : d < 16 := by have := hm.1; omega
    exact br_f (lb_f hlt) (xm_isInRow (u := (f_active, f_epoch, a_dataNodeDown, a_journalDown, a_masterDown, a_inTouch, a_promise, a_base, a_logLength, a_logEpoch, a_logKind, a_logA, a_logB, a_logC, a_inodeState, a_inodePlace, a_inodeClient, a_closeUnits, a_rowLength, a_rowBlock, a_blockStamp, a_replicaHeld, a_replicaStamp, a_unitCount, a_unitValue)) h hI hlt (fun _ => br_f bo_1 (nm_r (nI_1 d) H)) (fun z => absurd z (hm.2.1 d hd)))
theorem xm_isLastOfOpenFile {T : qt_T} {u : SX} (h : sx_T T u) (hI : qt_iv T) {post : Int32 → Prop} {b : Nat} (hb : b < 16) (h1 : qt_ol T b → post 1) (h0 : ¬ qt_ol T b → post 0) : wpX_isLastOfOpenFile post u (nI b) := by
  obtain ⟨f_active, f_epoch, a_dataNodeDown, a_journalDown, a_masterDown, a_inTouch, a_promise, a_base, a_logLength, a_logEpoch, a_logKind, a_logA, a_logB, a_logC, a_inodeState, a_inodePlace, a_inodeClient, a_closeUnits, a_rowLength, a_rowBlock, a_blockStamp, a_replicaHeld, a_replicaStamp, a_unitCount, a_unitValue⟩ := u
  have outer : ∀ k n f, f + k = 12 → k < n → (∀ g, g < f → qt_so T g = 2 → 0 < qt_rl T g → qt_ro T (3 * g + (qt_rl T g - 1)) ≠ b) → wX_isLastOfOpenFile_2 post (nI b) f_active f_epoch a_dataNodeDown a_journalDown a_masterDown a_inTouch a_promise a_base a_logLength a_logEpoch a_logKind a_logA a_logB a_logC a_inodeState a_inodePlace a_inodeClient a_closeUnits a_rowLength a_rowBlock a_blockStamp a_replicaHeld a_replicaStamp a_unitCount a_unitValue n (nI f) := by
    intro k
    induction k with
    | zero =>
      intro n f hf hn H
      obtain ⟨n, rfl⟩ : ∃ n', n = n' + 1 := ⟨n - 1, by omega⟩
      have e : f = 12 := by omega
      subst e
      exact br_t lb_t (h0 (fun ⟨g, hg, z1, z2, z3⟩ => H g hg z1 z2 z3))
    | succ k ih =>
      intro n f hf hn H
      obtain ⟨n, rfl⟩ : ∃ n', n = n' + 1 := ⟨n - 1, by omega⟩
      have hf' : f < 12 := by omega
      have go : (qt_so T f = 2 → 0 < qt_rl T f → qt_ro T (3 * f + (qt_rl T f - 1)) ≠ b) → wX_isLastOfOpenFile_2 post (nI b) f_active f_epoch a_dataNodeDown a_journalDown a_masterDown a_inTouch a_promise a_base a_logLength a_logEpoch a_logKind a_logA a_logB a_logC a_inodeState a_inodePlace a_inodeClient a_closeUnits a_rowLength a_rowBlock a_blockStamp a_replicaHeld a_replicaStamp a_unitCount a_unitValue n (nI (f + 1)) := by
        intro z
        refine ih n (f + 1) (by omega) (by omega) (fun g hg => ?_)
        by_cases e : g = f
        · subst e; exact z
        · exact H g (by omega)
      refine br_f (lb_f hf') (xm_isOpen (u := (f_active, f_epoch, a_dataNodeDown, a_journalDown, a_masterDown, a_inTouch, a_promise, a_base, a_logLength, a_logEpoch, a_logKind, a_logA, a_logB, a_logC, a_inodeState, a_inodePlace, a_inodeClient, a_closeUnits, a_rowLength, a_rowBlock, a_blockStamp, a_replicaHeld, a_replicaStamp, a_unitCount, a_unitValue)) h hI (n := f) (Or.inl ⟨hf', rfl⟩) (fun _ hs => br_f bo_1 ?_) (fun hs => br_t rfl (nm_r (nI_1 f) (go (fun z => absurd z (hs hf'))))))
      refine xm_lastBlock (u := (f_active, f_epoch, a_dataNodeDown, a_journalDown, a_masterDown, a_inTouch, a_promise, a_base, a_logLength, a_logEpoch, a_logKind, a_logA, a_logB, a_logC, a_inodeState, a_inodePlace, a_inodeClient, a_closeUnits, a_rowLength, a_rowBlock, a_blockStamp, a_replicaHeld, a_replicaStamp, a_unitCount, a_unitValue)) h hI hf' (fun z => br_f (fun y => ix_m1 (n := b) (by omega) y.symm) (nm_r (nI_1 f) (go (fun _ y => by omega)))) (fun z => ?_)
      have h5 := qt_iv5 hI f (qt_rl T f - 1) hf' (by omega)
      exact cd_if (nI_eq (by omega) (by omega)) (fun y => h1 ⟨f, hf', hs, z, y⟩) (fun y => nm_r (nI_1 f) (go (fun _ _ => y)))
  exact ⟨13, outer 12 13 0 (by omega) (by omega) (fun g hg => by omega)⟩
end
section
/-! reading the replicas: the component -/
def rd_bd (D : rd_D) : Prop := match D with | (_, st, un, _) => (∀ c, c < 80 → st c ≤ 2000000) ∧ (∀ c, c < 80 → un c ≤ 8)
theorem rd_mkS (f : Nat → Bool) (n : Nat) : rd_mk f (n + 1) = rd_mk f n + (if f n then 2 ^ n else 0) := rfl
theorem rd_mkZ {f : Nat → Bool} : ∀ {n : Nat}, (∀ d, d < n → f d = false) → rd_mk f n = 0 := by
  intro n
  induction n with
  | zero => intro _; rfl
  | succ n ih =>
    intro h
    rw [rd_mkS, ih (fun d hd => h d (by omega)), h n (by omega)]
    rfl
theorem rd_gmS (nu : Nat → Bool) (st : Nat → Nat) (b n : Nat) : rd_gm nu st b (n + 1) = if nu n = true ∧ rd_gm nu st b n < st (16 * n + b) then st (16 * n + b) else rd_gm nu st b n := rfl
/-- the good ones among the first n -/
def rd_gk (nu : Nat → Bool) (st : Nat → Nat) (b n e : Nat) : Bool := decide (nu e = true ∧ st (16 * e + b) = rd_gm nu st b n ∧ 0 < rd_gm nu st b n)
def rd_gv (nu : Nat → Bool) (st : Nat → Nat) (b n : Nat) : Int32 × Int32 := (qt_m (rd_gm nu st b n), nI (rd_mk (rd_gk nu st b n) n))
theorem rd_gv0 {nu : Nat → Bool} {st : Nat → Nat} {b n : Nat} (h : ¬ (nu n = true ∧ 0 < st (16 * n + b) ∧ rd_gm nu st b n ≤ st (16 * n + b))) : rd_gv nu st b (n + 1) = rd_gv nu st b n := by
  have e : rd_gm nu st b (n + 1) = rd_gm nu st b n := by
    rw [rd_gmS, if_neg]
    intro z
    exact h ⟨z.1, by omega, by omega⟩
  have e2 : rd_gk nu st b (n + 1) = rd_gk nu st b n := by unfold rd_gk; rw [e]
  have e3 : rd_gk nu st b n n = false := by
    unfold rd_gk
    exact decide_eq_false (fun z => h ⟨z.1, by omega, by omega⟩)
  unfold rd_gv
  rw [e, e2, rd_mkS, e3]
  rfl
theorem rd_gv1 {nu : Nat → Bool} {st : Nat → Nat} {b n : Nat} (h1 : nu n = true) (h2 : 0 < st (16 * n + b)) (h3 : rd_gm nu st b n = st (16 * n + b)) : rd_gv nu st b (n + 1) = (qt_m (rd_gm nu st b n), nI (rd_mk (rd_gk nu st b n) n + 2 ^ n)) := by
  have e : rd_gm nu st b (n + 1) = rd_gm nu st b n := by
    rw [rd_gmS, if_neg]
    intro z
    omega
  have e2 : rd_gk nu st b (n + 1) = rd_gk nu st b n := by unfold rd_gk; rw [e]
  have e3 : rd_gk nu st b n n = true := by
    unfold rd_gk
    exact decide_eq_true ⟨h1, h3.symm, by omega⟩
  unfold rd_gv
  rw [e, e2, rd_mkS, e3]
  rfl
theorem rd_gv2 {nu : Nat → Bool} {st : Nat → Nat} {b n : Nat} (h1 : nu n = true) (h3 : rd_gm nu st b n < st (16 * n + b)) : rd_gv nu st b (n + 1) = (qt_m (st (16 * n + b)), nI (0 + 2 ^ n)) := by
  have e : rd_gm nu st b (n + 1) = st (16 * n + b) := by rw [rd_gmS, if_pos ⟨h1, h3⟩]
  have e2 : rd_mk (rd_gk nu st b (n + 1)) n = 0 := by
    refine rd_mkZ (fun d hd => ?_)
    unfold rd_gk
    refine decide_eq_false (fun z => ?_)
    have := rd_gmU (st := st) (b := b) hd z.1
    omega
  have e3 : rd_gk nu st b (n + 1) n = true := by
    unfold rd_gk
    exact decide_eq_true ⟨h1, e.symm, by omega⟩
  unfold rd_gv
  rw [rd_mkS, e2, e3, e]
  rfl
theorem xm_goodNodes {T : qt_T} {nu : Nat → Bool} {st un : Nat → Nat} {ua : Nat → Int32} {u : SX} (h : sx_T T u) (hI : qt_iv T) (hD : sx_D (nu, st, un, ua) u) (hb : rd_bd (nu, st, un, ua)) {post : Int32 → Prop} {b : Nat} (hb16 : b < 16) (hp : post (nI (rd_mk (rd_g nu st b (qt_sp T b)) 5))) : wpX_goodNodes post u (nI b) := by
  obtain ⟨f_active, f_epoch, a_dataNodeDown, a_journalDown, a_masterDown, a_inTouch, a_promise, a_base, a_logLength, a_logEpoch, a_logKind, a_logA, a_logB, a_logC, a_inodeState, a_inodePlace, a_inodeClient, a_closeUnits, a_rowLength, a_rowBlock, a_blockStamp, a_replicaHeld, a_replicaStamp, a_unitCount, a_unitValue⟩ := u
  have h8 := qt_iv8 hI b hb16
  have hB : ∀ n, n ≤ 5 → rd_gm nu st b n ≤ 2000000 := fun n hn => rd_gmB hb16 hb.1 hn
  refine ⟨6, lq_f (fun n d (s : Int32 × Int32) => wX_goodNodes_7 post (nI b) f_active f_epoch a_dataNodeDown a_journalDown a_masterDown a_inTouch a_promise a_base a_logLength a_logEpoch a_logKind a_logA a_logB a_logC a_inodeState a_inodePlace a_inodeClient a_closeUnits a_rowLength a_rowBlock a_blockStamp a_replicaHeld a_replicaStamp a_unitCount a_unitValue n s.1 s.2 (nI d)) 5 (rd_gv nu st b) (fun n => br_t lb_t ⟨vp_in_nI hb16 (by decide), ?_⟩) (fun n d hd H => ?_) 6 0 (by omega) (by omega)⟩
  · have hg := hB 5 (by decide)
    have e : a_blockStamp (nI b).toNatClampNeg = nI (qt_sp T b) := by rw [nI_clamp (by omega)]; exact qt_ag7 h b hb16 (Or.inl trivial)
    rw [e]
    refine cd_if (qt_Nm (a := rd_gm nu st b 5) (by omega) (by omega)) (fun z => ?_) (fun z => ?_)
    · have e2 : rd_mk (rd_gk nu st b 5) 5 = rd_mk (rd_g nu st b (qt_sp T b)) 5 := by
        refine rd_mkC (fun d _ => ?_)
        unfold rd_gk rd_g rd_G
        rw [if_pos z]
        exact decide_eq_decide.mpr ⟨fun y => ⟨y.2.2, y.1, y.2.1⟩, fun y => ⟨y.2.1, y.2.2, y.1⟩⟩
      show post (nI (rd_mk (rd_gk nu st b 5) 5))
      rw [e2]
      exact hp
    · have e2 : rd_mk (rd_g nu st b (qt_sp T b)) 5 = 0 := by
        refine rd_mkZ (fun d _ => ?_)
        unfold rd_g rd_G
        rw [if_neg z]
        exact decide_eq_false (fun y => by omega)
      rw [e2] at hp
      exact hp
  · have hg := hB d (by omega)
    have hc : 16 * d + b < 80 := by omega
    have hs := hb.1 (16 * d + b) hc
    have h0 : ¬ (nu d = true ∧ 0 < st (16 * d + b) ∧ rd_gm nu st b d ≤ st (16 * d + b)) → wX_goodNodes_7 post (nI b) f_active f_epoch a_dataNodeDown a_journalDown a_masterDown a_inTouch a_promise a_base a_logLength a_logEpoch a_logKind a_logA a_logB a_logC a_inodeState a_inodePlace a_inodeClient a_closeUnits a_rowLength a_rowBlock a_blockStamp a_replicaHeld a_replicaStamp a_unitCount a_unitValue n (rd_gv nu st b d).1 (rd_gv nu st b d).2 (nI (d + 1)) := by
      intro z
      rw [← rd_gv0 z]; exact H
    refine br_f (lb_f hd) (nm_r (mu_r d 16 b) ⟨vp_in_nI hd (by decide), cd_if (cd_n (hD.1 d hd) (by omega)) (fun hu => ⟨vp_in_nI hc (by decide), ?_⟩) (fun hu => nm_r (nI_1 d) (h0 (fun z => hu z.1)))⟩)
    have eh : a_replicaHeld (nI (16 * d + b)).toNatClampNeg = 0 ↔ st (16 * d + b) = 0 := by
      rw [nI_clamp (by omega), hD.2.1 _ hc]
      split
      · rename_i z; simp [z]
      · rename_i z; simp [z]
    refine cd_if eh (fun z => nm_r (nI_1 d) (h0 (fun y => by omega))) (fun z => ⟨vp_in_nI hc (by decide), ?_⟩)
    have es : a_replicaStamp (nI (16 * d + b)).toNatClampNeg = qt_m (st (16 * d + b)) := by
      rw [nI_clamp (by omega), hD.2.2.1 _ hc z]
      obtain ⟨s, e⟩ : ∃ s, st (16 * d + b) = s + 1 := ⟨st (16 * d + b) - 1, by omega⟩
      rw [e, qt_ms]; rfl
    rw [es]
    refine cd_if (qt_mle (a := rd_gm nu st b d) (by omega) (by omega)) (fun y => ⟨vp_in_nI hc (by decide), cd_if (qt_mle (b := rd_gm nu st b d) (by omega) (by omega)) (fun x => ?_) (fun x => ⟨vp_in_nI hc (by decide), nm_e ?_⟩)⟩) (fun y => nm_r (nI_1 d) (h0 (fun x => y x.2.2)))
    · have e := rd_gv1 (b := b) hu (by omega) (by omega : rd_gm nu st b d = st (16 * d + b))
      have hl := rd_mkL (rd_gk nu st b d) d
      have hl2 : 2 ^ d ≤ 16 := by
        have : 2 ^ d ≤ 2 ^ 4 := Nat.pow_le_pow_right (by decide) (by omega)
        omega
      refine nm_r (rd_orN d hd _ (by omega) hl) (nm_r (nI_1 d) ?_)
      rw [e] at H
      exact H
    · have e := rd_gv2 (b := b) hu (by omega : rd_gm nu st b d < st (16 * d + b))
      refine nm_r (rd_orN d hd 0 (by decide) (Nat.two_pow_pos d)) (nm_r (nI_1 d) ?_)
      rw [e] at H
      exact H
theorem xm_isIn {u : SX} {f : Nat → Bool} {post : Int32 → Prop} {d : Nat} (hd : d < 5) (h1 : f d = true → post 1) (h0 : f d = false → post 0) : wpX_isIn post u (nI (rd_mk f 5)) (nI d) := by
  obtain ⟨f_active, f_epoch, a_dataNodeDown, a_journalDown, a_masterDown, a_inTouch, a_promise, a_base, a_logLength, a_logEpoch, a_logKind, a_logA, a_logB, a_logC, a_inodeState, a_inodePlace, a_inodeClient, a_closeUnits, a_rowLength, a_rowBlock, a_blockStamp, a_replicaHeld, a_replicaStamp, a_unitCount, a_unitValue⟩ := u
  exact cd_if (rd_b1 f hd) h1 (fun z => h0 (by simpa using z))
theorem xm_firstGoodNode {T : qt_T} {nu : Nat → Bool} {st un : Nat → Nat} {ua : Nat → Int32} {u : SX} (h : sx_T T u) (hI : qt_iv T) (hD : sx_D (nu, st, un, ua) u) (hb : rd_bd (nu, st, un, ua)) {post : Int32 → Prop} {b m : Nat} (hb16 : b < 16) (hm : ls_f (fun d => rd_g nu st b (qt_sp T b) d = true) 5 m) (hp : post (ls_v 5 m)) : wpX_firstGoodNode post u (nI b) := by
  obtain ⟨f_active, f_epoch, a_dataNodeDown, a_journalDown, a_masterDown, a_inTouch, a_promise, a_base, a_logLength, a_logEpoch, a_logKind, a_logA, a_logB, a_logC, a_inodeState, a_inodePlace, a_inodeClient, a_closeUnits, a_rowLength, a_rowBlock, a_blockStamp, a_replicaHeld, a_replicaStamp, a_unitCount, a_unitValue⟩ := u
  unfold wpX_firstGoodNode
  refine xm_goodNodes (u := (f_active, f_epoch, a_dataNodeDown, a_journalDown, a_masterDown, a_inTouch, a_promise, a_base, a_logLength, a_logEpoch, a_logKind, a_logA, a_logB, a_logC, a_inodeState, a_inodePlace, a_inodeClient, a_closeUnits, a_rowLength, a_rowBlock, a_blockStamp, a_replicaHeld, a_replicaStamp, a_unitCount, a_unitValue)) h hI hD hb hb16 ?_
  refine ⟨6, lq_s (fun n d => wX_firstGoodNode_8 post (nI (rd_mk (rd_g nu st b (qt_sp T b)) 5)) f_active f_epoch a_dataNodeDown a_journalDown a_masterDown a_inTouch a_promise a_base a_logLength a_logEpoch a_logKind a_logA a_logB a_logC a_inodeState a_inodePlace a_inodeClient a_closeUnits a_rowLength a_rowBlock a_blockStamp a_replicaHeld a_replicaStamp a_unitCount a_unitValue n (nI d)) 5 m hm.1 (fun n e => ?_) (fun n hlt => ?_) (fun n d hd H => ?_) 6 0 (by omega) (by omega)⟩
  · subst e
    rw [ls_vN] at hp
    exact br_t lb_t hp
  · rw [ls_vS hlt] at hp
    have z := hm.2.2 hlt
    exact br_f (lb_f hlt) (xm_isIn hlt (fun _ => br_f bo_1 hp) (fun y => absurd (y.symm.trans z) (by decide)))
  · have hlt : d < 5 := by have := hm.1; omega
    have z := hm.2.1 d hd
    exact br_f (lb_f hlt) (xm_isIn hlt (fun y => absurd y z) (fun _ => br_t rfl (nm_r (nI_1 d) H)))
def rd_hg (nu : Nat → Bool) (st : Nat → Nat) (b s : Nat) : Prop := ∃ d, d < 5 ∧ 0 < rd_G nu st b s ∧ nu d = false ∧ st (16 * d + b) = rd_G nu st b s
theorem xm_held {st : Nat → Nat} {a : Nat → Int32} {c : Nat} (h : ∀ c, c < 80 → a c = if st c = 0 then 0 else 1) (hc : c < 80) : a (nI c).toNatClampNeg = 0 ↔ st c = 0 := by
  rw [nI_clamp (by omega), h _ hc]
  split
  · rename_i z; simp [z]
  · rename_i z; simp [z]
theorem xm_stamp {st : Nat → Nat} {a : Nat → Int32} {c : Nat} (h : ∀ c, c < 80 → st c ≠ 0 → a c = nI (st c - 1)) (hc : c < 80) (z : st c ≠ 0) : a (nI c).toNatClampNeg = qt_m (st c) := by
  rw [nI_clamp (by omega), h _ hc z]
  obtain ⟨s, e⟩ : ∃ s, st c = s + 1 := ⟨st c - 1, by omega⟩
  rw [e, qt_ms]; rfl
theorem xm_hangs {T : qt_T} {nu : Nat → Bool} {st un : Nat → Nat} {ua : Nat → Int32} {u : SX} (h : sx_T T u) (hI : qt_iv T) (hD : sx_D (nu, st, un, ua) u) (hb : rd_bd (nu, st, un, ua)) {post : Int32 → Prop} {b : Nat} (hb16 : b < 16) (h1 : rd_hg nu st b (qt_sp T b) → post 1) (h0 : ¬ rd_hg nu st b (qt_sp T b) → post 0) : wpX_hangs post u (nI b) := by
  obtain ⟨f_active, f_epoch, a_dataNodeDown, a_journalDown, a_masterDown, a_inTouch, a_promise, a_base, a_logLength, a_logEpoch, a_logKind, a_logA, a_logB, a_logC, a_inodeState, a_inodePlace, a_inodeClient, a_closeUnits, a_rowLength, a_rowBlock, a_blockStamp, a_replicaHeld, a_replicaStamp, a_unitCount, a_unitValue⟩ := u
  unfold wpX_hangs
  obtain ⟨m, hm⟩ := ls_ex (fun d => rd_g nu st b (qt_sp T b) d = true) 5
  refine xm_firstGoodNode (u := (f_active, f_epoch, a_dataNodeDown, a_journalDown, a_masterDown, a_inTouch, a_promise, a_base, a_logLength, a_logEpoch, a_logKind, a_logA, a_logB, a_logC, a_inodeState, a_inodePlace, a_inodeClient, a_closeUnits, a_rowLength, a_rowBlock, a_blockStamp, a_replicaHeld, a_replicaStamp, a_unitCount, a_unitValue)) h hI hD hb hb16 hm ?_
  by_cases hlt : m < 5
  · rw [ls_vS hlt]
    obtain ⟨g1, g2, g3⟩ := rd_gI.mp (hm.2.2 hlt)
    have hc : 16 * m + b < 80 := by omega
    refine br_f (ix_m1 (by omega)) ?_
    rw [show nI m * 16 + nI b = nI (16 * m + b) from mu_r m 16 b]
    refine ⟨vp_in_nI hc (by decide), nm_r ((xm_stamp hD.2.2.1 hc (by omega)).trans (by rw [g3])) ?_⟩
    have hGB : rd_G nu st b (qt_sp T b) ≤ 2000000 := by rw [← g3]; exact hb.1 _ hc
    have key : ∀ k n d, d + k = 5 → k < n → (∀ e, e < d → ¬ (nu e = false ∧ st (16 * e + b) = rd_G nu st b (qt_sp T b))) → wX_hangs_28 post (nI b) (qt_m (rd_G nu st b (qt_sp T b))) f_active f_epoch a_dataNodeDown a_journalDown a_masterDown a_inTouch a_promise a_base a_logLength a_logEpoch a_logKind a_logA a_logB a_logC a_inodeState a_inodePlace a_inodeClient a_closeUnits a_rowLength a_rowBlock a_blockStamp a_replicaHeld a_replicaStamp a_unitCount a_unitValue n (nI d) := by
      intro k
      induction k with
      | zero =>
        intro n d hd hn H
        obtain ⟨n, rfl⟩ : ∃ n', n = n' + 1 := ⟨n - 1, by omega⟩
        have e : d = 5 := by omega
        subst e
        exact br_t lb_t (h0 (fun ⟨e, he, _, z2, z3⟩ => H e he ⟨z2, z3⟩))
      | succ k ih =>
        intro n d hd hn H
        obtain ⟨n, rfl⟩ : ∃ n', n = n' + 1 := ⟨n - 1, by omega⟩
        have hd5 : d < 5 := by omega
        have hc : 16 * d + b < 80 := by omega
        have hs := hb.1 (16 * d + b) hc
        have go : ¬ (nu d = false ∧ st (16 * d + b) = rd_G nu st b (qt_sp T b)) → wX_hangs_28 post (nI b) (qt_m (rd_G nu st b (qt_sp T b))) f_active f_epoch a_dataNodeDown a_journalDown a_masterDown a_inTouch a_promise a_base a_logLength a_logEpoch a_logKind a_logA a_logB a_logC a_inodeState a_inodePlace a_inodeClient a_closeUnits a_rowLength a_rowBlock a_blockStamp a_replicaHeld a_replicaStamp a_unitCount a_unitValue n (nI (d + 1)) := by
          intro z
          refine ih n (d + 1) (by omega) (by omega) (fun e he => ?_)
          by_cases e' : e = d
          · subst e'; exact z
          · exact H e (by omega)
        refine br_f (lb_f hd5) (nm_r (mu_r d 16 b) ⟨vp_in_nI hd5 (by decide), cd_if (cd_n (hD.1 d hd5) (by omega)) (fun hu => nm_r (nI_1 d) (go (fun z => by rw [hu] at z; exact absurd z.1 (by decide)))) (fun hu => ⟨vp_in_nI hc (by decide), cd_if (xm_held hD.2.1 hc) (fun z => nm_r (nI_1 d) (go (fun y => by omega))) (fun z => ⟨vp_in_nI hc (by decide), ?_⟩)⟩)⟩)
        rw [xm_stamp hD.2.2.1 hc z]
        exact cd_if (qt_mE (by omega) (by omega)) (fun y => h1 ⟨d, hd5, g1, by simpa using hu, y⟩) (fun y => nm_r (nI_1 d) (go (fun x => y x.2)))
    exact ⟨6, key 5 6 0 (by omega) (by omega) (fun e he => by omega)⟩
  · have e : m = 5 := by have := hm.1; omega
    subst e
    rw [ls_vN]
    refine br_t rfl (h0 (fun ⟨_, _, g, _, _⟩ => ?_))
    obtain ⟨d, hd, z⟩ := rd_gX g
    exact hm.2.1 d hd z
end
section
/-! reading the replicas: the component, units and loads -/
theorem cd_m1q {v : Nat} (hv : v < 2 ^ 31) : qt_m v = -1 ↔ v = 0 := qt_m0E hv
theorem qt_mleN {a s : Nat} (ha : a < 2 ^ 31) (hs : s < 2 ^ 31) : qt_m a ≤ nI s ↔ a ≤ s + 1 := by
  rw [Int32.le_iff_toInt_le, qt_mT ha, nI_toInt hs]; omega
theorem xm_fewestUnits {T : qt_T} {nu : Nat → Bool} {st un : Nat → Nat} {ua : Nat → Int32} {u : SX} (h : sx_T T u) (hI : qt_iv T) (hD : sx_D (nu, st, un, ua) u) (hb : rd_bd (nu, st, un, ua)) {post : Int32 → Prop} {b : Nat} (hb16 : b < 16) (hp : post (qt_m (rd_fw (rd_g nu st b (qt_sp T b)) un b 5))) : wpX_fewestUnits post u (nI b) := by
  obtain ⟨f_active, f_epoch, a_dataNodeDown, a_journalDown, a_masterDown, a_inTouch, a_promise, a_base, a_logLength, a_logEpoch, a_logKind, a_logA, a_logB, a_logC, a_inodeState, a_inodePlace, a_inodeClient, a_closeUnits, a_rowLength, a_rowBlock, a_blockStamp, a_replicaHeld, a_replicaStamp, a_unitCount, a_unitValue⟩ := u
  unfold wpX_fewestUnits
  refine xm_goodNodes (u := (f_active, f_epoch, a_dataNodeDown, a_journalDown, a_masterDown, a_inTouch, a_promise, a_base, a_logLength, a_logEpoch, a_logKind, a_logA, a_logB, a_logC, a_inodeState, a_inodePlace, a_inodeClient, a_closeUnits, a_rowLength, a_rowBlock, a_blockStamp, a_replicaHeld, a_replicaStamp, a_unitCount, a_unitValue)) h hI hD hb hb16 ?_
  generalize rd_g nu st b (qt_sp T b) = f at hp ⊢
  refine ⟨6, lq_f (fun n d s => wX_fewestUnits_11 post (nI b) (nI (rd_mk f 5)) f_active f_epoch a_dataNodeDown a_journalDown a_masterDown a_inTouch a_promise a_base a_logLength a_logEpoch a_logKind a_logA a_logB a_logC a_inodeState a_inodePlace a_inodeClient a_closeUnits a_rowLength a_rowBlock a_blockStamp a_replicaHeld a_replicaStamp a_unitCount a_unitValue n s (nI d)) 5 (fun d => qt_m (rd_fw f un b d)) (fun n => br_t lb_t hp) (fun n d hd H => ?_) 6 0 (by omega) (by omega)⟩
  have hc : 16 * d + b < 80 := by omega
  have hu := hb.2 (16 * d + b) hc
  have hw := rd_fwB (f := f) hb16 hb.2 (n := d) (by omega)
  have H' : wX_fewestUnits_11 post (nI b) (nI (rd_mk f 5)) f_active f_epoch a_dataNodeDown a_journalDown a_masterDown a_inTouch a_promise a_base a_logLength a_logEpoch a_logKind a_logA a_logB a_logC a_inodeState a_inodePlace a_inodeClient a_closeUnits a_rowLength a_rowBlock a_blockStamp a_replicaHeld a_replicaStamp a_unitCount a_unitValue n (qt_m (rd_fw f un b (d + 1))) (nI (d + 1)) := H
  rw [rd_fwS] at H'
  refine br_f (lb_f hd) ?_
  rw [show nI d * 16 + nI b = nI (16 * d + b) from mu_r d 16 b]
  refine ⟨vp_in_nI hc (by decide), nm_r (e' := nI (un (16 * d + b))) (by rw [nI_clamp (by omega)]; exact hD.2.2.2.1 _ hc) (xm_isIn hd (fun z => br_f bo_1 ?_) (fun z => br_t rfl (nm_r (nI_1 d) ?_)))⟩
  · refine cd_if (qt_m0E (by omega)) (fun y => nm_r (nI_1 d) ?_) (fun y => cd_if (qt_mleN (by omega) (by omega)) (fun x => nm_r (nI_1 d) ?_) (fun x => nm_r (nI_1 d) ?_))
    · rw [if_pos ⟨z, Or.inl y⟩, qt_ms] at H'; exact H'
    · rw [if_neg (fun w => by rcases w.2 with v | v <;> omega)] at H'; exact H'
    · rw [if_pos ⟨z, Or.inr (by omega)⟩, qt_ms] at H'; exact H'
  · rw [if_neg (fun w => by rw [z] at w; exact absurd w.1 (by decide))] at H'; exact H'
theorem xm_mostUnits {T : qt_T} {nu : Nat → Bool} {st un : Nat → Nat} {ua : Nat → Int32} {u : SX} (h : sx_T T u) (hI : qt_iv T) (hD : sx_D (nu, st, un, ua) u) (hb : rd_bd (nu, st, un, ua)) {post : Int32 → Prop} {b : Nat} (hb16 : b < 16) (hp : post (qt_m (rd_mo (rd_g nu st b (qt_sp T b)) un b 5))) : wpX_mostUnits post u (nI b) := by
  obtain ⟨f_active, f_epoch, a_dataNodeDown, a_journalDown, a_masterDown, a_inTouch, a_promise, a_base, a_logLength, a_logEpoch, a_logKind, a_logA, a_logB, a_logC, a_inodeState, a_inodePlace, a_inodeClient, a_closeUnits, a_rowLength, a_rowBlock, a_blockStamp, a_replicaHeld, a_replicaStamp, a_unitCount, a_unitValue⟩ := u
  unfold wpX_mostUnits
  refine xm_goodNodes (u := (f_active, f_epoch, a_dataNodeDown, a_journalDown, a_masterDown, a_inTouch, a_promise, a_base, a_logLength, a_logEpoch, a_logKind, a_logA, a_logB, a_logC, a_inodeState, a_inodePlace, a_inodeClient, a_closeUnits, a_rowLength, a_rowBlock, a_blockStamp, a_replicaHeld, a_replicaStamp, a_unitCount, a_unitValue)) h hI hD hb hb16 ?_
  generalize rd_g nu st b (qt_sp T b) = f at hp ⊢
  refine ⟨6, lq_f (fun n d s => wX_mostUnits_11 post (nI b) (nI (rd_mk f 5)) f_active f_epoch a_dataNodeDown a_journalDown a_masterDown a_inTouch a_promise a_base a_logLength a_logEpoch a_logKind a_logA a_logB a_logC a_inodeState a_inodePlace a_inodeClient a_closeUnits a_rowLength a_rowBlock a_blockStamp a_replicaHeld a_replicaStamp a_unitCount a_unitValue n s (nI d)) 5 (fun d => qt_m (rd_mo f un b d)) (fun n => br_t lb_t hp) (fun n d hd H => ?_) 6 0 (by omega) (by omega)⟩
  have hc : 16 * d + b < 80 := by omega
  have hu := hb.2 (16 * d + b) hc
  have hw := rd_moB (f := f) hb16 hb.2 (n := d) (by omega)
  have H' : wX_mostUnits_11 post (nI b) (nI (rd_mk f 5)) f_active f_epoch a_dataNodeDown a_journalDown a_masterDown a_inTouch a_promise a_base a_logLength a_logEpoch a_logKind a_logA a_logB a_logC a_inodeState a_inodePlace a_inodeClient a_closeUnits a_rowLength a_rowBlock a_blockStamp a_replicaHeld a_replicaStamp a_unitCount a_unitValue n (qt_m (rd_mo f un b (d + 1))) (nI (d + 1)) := H
  rw [rd_moS] at H'
  refine br_f (lb_f hd) ?_
  rw [show nI d * 16 + nI b = nI (16 * d + b) from mu_r d 16 b]
  refine ⟨vp_in_nI hc (by decide), nm_r (e' := nI (un (16 * d + b))) (by rw [nI_clamp (by omega)]; exact hD.2.2.2.1 _ hc) (xm_isIn hd (fun z => br_f bo_1 ?_) (fun z => br_t rfl (nm_r (nI_1 d) ?_)))⟩
  · refine cd_if (qt_Nm (by omega) (by omega)) (fun x => nm_r (nI_1 d) ?_) (fun x => nm_r (nI_1 d) ?_)
    · rw [if_neg (fun w => by omega)] at H'; exact H'
    · rw [if_pos ⟨z, by omega⟩, qt_ms] at H'; exact H'
  · rw [if_neg (fun w => by rw [z] at w; exact absurd w.1 (by decide))] at H'; exact H'
/-- the last block lets its file grow -/
def rd_ct (T : qt_T) (nu : Nat → Bool) (st un : Nat → Nat) (b m : Nat) : Prop := m < 5 ∧ (rd_hg nu st b (qt_sp T b) ∨ un (16 * m + b) < 8 ∨ rd_fw (rd_g nu st b (qt_sp T b)) un b 5 = 9)
theorem xm_canTakeUnit {T : qt_T} {nu : Nat → Bool} {st un : Nat → Nat} {ua : Nat → Int32} {u : SX} (h : sx_T T u) (hI : qt_iv T) (hD : sx_D (nu, st, un, ua) u) (hb : rd_bd (nu, st, un, ua)) {post : Int32 → Prop} {b m : Nat} (hb16 : b < 16) (hm : ls_f (fun d => rd_g nu st b (qt_sp T b) d = true) 5 m) (h1 : rd_ct T nu st un b m → post 1) (h0 : ¬ rd_ct T nu st un b m → post 0) : wpX_canTakeUnit post u (nI b) := by
  obtain ⟨f_active, f_epoch, a_dataNodeDown, a_journalDown, a_masterDown, a_inTouch, a_promise, a_base, a_logLength, a_logEpoch, a_logKind, a_logA, a_logB, a_logC, a_inodeState, a_inodePlace, a_inodeClient, a_closeUnits, a_rowLength, a_rowBlock, a_blockStamp, a_replicaHeld, a_replicaStamp, a_unitCount, a_unitValue⟩ := u
  unfold wpX_canTakeUnit
  refine xm_firstGoodNode (u := (f_active, f_epoch, a_dataNodeDown, a_journalDown, a_masterDown, a_inTouch, a_promise, a_base, a_logLength, a_logEpoch, a_logKind, a_logA, a_logB, a_logC, a_inodeState, a_inodePlace, a_inodeClient, a_closeUnits, a_rowLength, a_rowBlock, a_blockStamp, a_replicaHeld, a_replicaStamp, a_unitCount, a_unitValue)) h hI hD hb hb16 hm ?_
  by_cases hlt : m < 5
  · rw [ls_vS hlt]
    have hc : 16 * m + b < 80 := by omega
    have hu := hb.2 (16 * m + b) hc
    have hw := rd_fwB (f := rd_g nu st b (qt_sp T b)) hb16 hb.2 (n := 5) (by omega)
    refine br_f (ix_m1 (by omega)) (xm_hangs (u := (f_active, f_epoch, a_dataNodeDown, a_journalDown, a_masterDown, a_inTouch, a_promise, a_base, a_logLength, a_logEpoch, a_logKind, a_logA, a_logB, a_logC, a_inodeState, a_inodePlace, a_inodeClient, a_closeUnits, a_rowLength, a_rowBlock, a_blockStamp, a_replicaHeld, a_replicaStamp, a_unitCount, a_unitValue)) h hI hD hb hb16 (fun z => br_f bo_1 (h1 ⟨hlt, Or.inl z⟩)) (fun z => br_t rfl ?_))
    rw [show nI m * 16 + nI b = nI (16 * m + b) from mu_r m 16 b]
    have e : a_unitCount (nI (16 * m + b)).toNatClampNeg = nI (un (16 * m + b)) := by rw [nI_clamp (by omega)]; exact hD.2.2.2.1 _ hc
    rw [e]
    refine ⟨vp_in_nI hc (by decide), cd_if (nI_ltI (b := 8) (by omega) (by decide)) (fun y => h1 ⟨hlt, Or.inr (Or.inl y)⟩) (fun y => xm_fewestUnits (u := (f_active, f_epoch, a_dataNodeDown, a_journalDown, a_masterDown, a_inTouch, a_promise, a_base, a_logLength, a_logEpoch, a_logKind, a_logA, a_logB, a_logC, a_inodeState, a_inodePlace, a_inodeClient, a_closeUnits, a_rowLength, a_rowBlock, a_blockStamp, a_replicaHeld, a_replicaStamp, a_unitCount, a_unitValue)) h hI hD hb hb16 (cd_if (qt_mEn (s := 8) (by omega) (by decide)) (fun x => h1 ⟨hlt, Or.inr (Or.inr x)⟩) (fun x => h0 (fun w => ?_))))⟩
    rcases w.2 with v | v | v
    · exact z v
    · exact y v
    · exact x v
  · have e : m = 5 := by have := hm.1; omega
    subst e
    rw [ls_vN]
    exact br_t rfl (h0 (fun z => hlt z.1))
theorem rd_ldS (st : Nat → Nat) (d n : Nat) : rd_ld st d (n + 1) = rd_ld st d n + (if st (16 * d + n) = 0 then 0 else 1) := rfl
theorem xm_loadOf {nu : Nat → Bool} {st un : Nat → Nat} {ua : Nat → Int32} {u : SX} (hD : sx_D (nu, st, un, ua) u) {post : Int32 → Prop} {d : Nat} (hd : d < 5) (hp : post (nI (rd_ld st d 16))) : wpX_loadOf post u (nI d) := by
  obtain ⟨f_active, f_epoch, a_dataNodeDown, a_journalDown, a_masterDown, a_inTouch, a_promise, a_base, a_logLength, a_logEpoch, a_logKind, a_logA, a_logB, a_logC, a_inodeState, a_inodePlace, a_inodeClient, a_closeUnits, a_rowLength, a_rowBlock, a_blockStamp, a_replicaHeld, a_replicaStamp, a_unitCount, a_unitValue⟩ := u
  refine ⟨17, lq_f (fun n b s => wX_loadOf_4 post (nI d) f_active f_epoch a_dataNodeDown a_journalDown a_masterDown a_inTouch a_promise a_base a_logLength a_logEpoch a_logKind a_logA a_logB a_logC a_inodeState a_inodePlace a_inodeClient a_closeUnits a_rowLength a_rowBlock a_blockStamp a_replicaHeld a_replicaStamp a_unitCount a_unitValue n s (nI b)) 16 (fun b => nI (rd_ld st d b)) (fun n => br_t lb_t hp) (fun n b hb H => ?_) 17 0 (by omega) (by omega)⟩
  have hc : 16 * d + b < 80 := by omega
  have H' : wX_loadOf_4 post (nI d) f_active f_epoch a_dataNodeDown a_journalDown a_masterDown a_inTouch a_promise a_base a_logLength a_logEpoch a_logKind a_logA a_logB a_logC a_inodeState a_inodePlace a_inodeClient a_closeUnits a_rowLength a_rowBlock a_blockStamp a_replicaHeld a_replicaStamp a_unitCount a_unitValue n (nI (rd_ld st d (b + 1))) (nI (b + 1)) := H
  rw [rd_ldS] at H'
  refine br_f (lb_f hb) ?_
  rw [show nI d * 16 + nI b = nI (16 * d + b) from mu_r d 16 b]
  refine ⟨vp_in_nI hc (by decide), cd_if (xm_held hD.2.1 hc) (fun z => nm_r (nI_1 b) ?_) (fun z => nm_r (nI_1 _) (nm_r (nI_1 b) ?_))⟩
  · rw [if_pos z] at H'; exact H'
  · rw [if_neg z] at H'; exact H'
def rd_iv2 (nu : Nat → Bool) (st : Nat → Nat) (ok : Nat → Bool) (n : Nat) : Int32 × Int32 := (qt_m (rd_il nu st ok n), if rd_il nu st ok n = 0 then 0 else nI (rd_ld st (rd_il nu st ok n - 1) 16))
theorem xm_leastLoadedNode {nu : Nat → Bool} {st un : Nat → Nat} {ua : Nat → Int32} {u : SX} (hD : sx_D (nu, st, un, ua) u) {post : Int32 → Prop} {f : Nat → Bool} (hp : post (qt_m (rd_il nu st (fun x => !f x) 5))) : wpX_leastLoadedNode post u (nI (rd_mk f 5)) := by
  obtain ⟨f_active, f_epoch, a_dataNodeDown, a_journalDown, a_masterDown, a_inTouch, a_promise, a_base, a_logLength, a_logEpoch, a_logKind, a_logA, a_logB, a_logC, a_inodeState, a_inodePlace, a_inodeClient, a_closeUnits, a_rowLength, a_rowBlock, a_blockStamp, a_replicaHeld, a_replicaStamp, a_unitCount, a_unitValue⟩ := u
  refine ⟨6, lq_f (fun n d (s : Int32 × Int32) => wX_leastLoadedNode_7 post (nI (rd_mk f 5)) f_active f_epoch a_dataNodeDown a_journalDown a_masterDown a_inTouch a_promise a_base a_logLength a_logEpoch a_logKind a_logA a_logB a_logC a_inodeState a_inodePlace a_inodeClient a_closeUnits a_rowLength a_rowBlock a_blockStamp a_replicaHeld a_replicaStamp a_unitCount a_unitValue n s.1 s.2 (nI d)) 5 (rd_iv2 nu st (fun x => !f x)) (fun n => br_t lb_t hp) (fun n d hd H => ?_) 6 0 (by omega) (by omega)⟩
  have hl := rd_ldB st d 16
  have hil : rd_il nu st (fun x => !f x) d ≤ d := by
    rcases rd_ilP (nu := nu) (st := st) (ok := fun x => !f x) (n := d) with z | z <;> omega
  have hT : f d = false → nu d = true → (rd_il nu st (fun x => !f x) d = 0 ∨ rd_ld st d 16 < rd_ld st (rd_il nu st (fun x => !f x) d - 1) 16) → wX_leastLoadedNode_7 post (nI (rd_mk f 5)) f_active f_epoch a_dataNodeDown a_journalDown a_masterDown a_inTouch a_promise a_base a_logLength a_logEpoch a_logKind a_logA a_logB a_logC a_inodeState a_inodePlace a_inodeClient a_closeUnits a_rowLength a_rowBlock a_blockStamp a_replicaHeld a_replicaStamp a_unitCount a_unitValue n (nI d) (nI (rd_ld st d 16)) (nI (d + 1)) := by
    intro z1 z2 z3
    have e : rd_iv2 nu st (fun x => !f x) (d + 1) = (nI d, nI (rd_ld st d 16)) := by
      unfold rd_iv2
      rw [rd_ilS, if_pos ⟨by rw [z1]; rfl, z2, z3⟩, qt_ms]
      rfl
    rw [e] at H
    exact H
  have hF : ¬ (f d = false ∧ nu d = true ∧ (rd_il nu st (fun x => !f x) d = 0 ∨ rd_ld st d 16 < rd_ld st (rd_il nu st (fun x => !f x) d - 1) 16)) → wX_leastLoadedNode_7 post (nI (rd_mk f 5)) f_active f_epoch a_dataNodeDown a_journalDown a_masterDown a_inTouch a_promise a_base a_logLength a_logEpoch a_logKind a_logA a_logB a_logC a_inodeState a_inodePlace a_inodeClient a_closeUnits a_rowLength a_rowBlock a_blockStamp a_replicaHeld a_replicaStamp a_unitCount a_unitValue n (rd_iv2 nu st (fun x => !f x) d).1 (rd_iv2 nu st (fun x => !f x) d).2 (nI (d + 1)) := by
    intro z
    have e : rd_iv2 nu st (fun x => !f x) (d + 1) = rd_iv2 nu st (fun x => !f x) d := by
      unfold rd_iv2
      rw [rd_ilS, if_neg (fun y => z ⟨by simpa using y.1, y.2⟩)]
    rw [e] at H
    exact H
  refine br_f (lb_f hd) (xm_loadOf (u := (f_active, f_epoch, a_dataNodeDown, a_journalDown, a_masterDown, a_inTouch, a_promise, a_base, a_logLength, a_logEpoch, a_logKind, a_logA, a_logB, a_logC, a_inodeState, a_inodePlace, a_inodeClient, a_closeUnits, a_rowLength, a_rowBlock, a_blockStamp, a_replicaHeld, a_replicaStamp, a_unitCount, a_unitValue)) hD hd ⟨vp_in_nI hd (by decide), cd_if (cd_n (hD.1 d hd) (by omega)) (fun hu => xm_isIn hd (fun z => br_f bo_1 (nm_r (nI_1 d) (hF (fun y => by rw [z] at y; exact absurd y.1 (by decide))))) (fun z => br_t rfl ?_)) (fun hu => nm_r (nI_1 d) (hF (fun y => hu y.2.1)))⟩)
  refine cd_if (qt_m0E (by omega)) (fun y => nm_r (nI_1 d) (hT z hu (Or.inl y))) (fun y => ?_)
  have hl2 := rd_ldB st (rd_il nu st (fun x => !f x) d - 1) 16
  have e : (rd_iv2 nu st (fun x => !f x) d).2 = nI (rd_ld st (rd_il nu st (fun x => !f x) d - 1) 16) := if_neg y
  have hle : (rd_iv2 nu st (fun x => !f x) d).2 ≤ nI (rd_ld st d 16) ↔ rd_ld st (rd_il nu st (fun x => !f x) d - 1) 16 ≤ rd_ld st d 16 := by rw [e, nI_leI (by omega) (by omega)]
  exact cd_if hle (fun x => nm_r (nI_1 d) (hF (fun w => by rcases w.2.2 with v | v <;> omega))) (fun x => nm_r (nI_1 d) (hT z hu (Or.inr (by omega))))
theorem xm_hasTooFewGood {T : qt_T} {nu : Nat → Bool} {st un : Nat → Nat} {ua : Nat → Int32} {u : SX} (h : sx_T T u) (hI : qt_iv T) (hD : sx_D (nu, st, un, ua) u) (hb : rd_bd (nu, st, un, ua)) {post : Int32 → Prop} {b : Nat} (hb16 : b < 16) (h1 : 0 < rd_cn (rd_g nu st b (qt_sp T b)) 5 → rd_cn (rd_g nu st b (qt_sp T b)) 5 < 3 → post 1) (h0 : ¬ (0 < rd_cn (rd_g nu st b (qt_sp T b)) 5 ∧ rd_cn (rd_g nu st b (qt_sp T b)) 5 < 3) → post 0) : wpX_hasTooFewGood post u (nI b) := by
  obtain ⟨f_active, f_epoch, a_dataNodeDown, a_journalDown, a_masterDown, a_inTouch, a_promise, a_base, a_logLength, a_logEpoch, a_logKind, a_logA, a_logB, a_logC, a_inodeState, a_inodePlace, a_inodeClient, a_closeUnits, a_rowLength, a_rowBlock, a_blockStamp, a_replicaHeld, a_replicaStamp, a_unitCount, a_unitValue⟩ := u
  unfold wpX_hasTooFewGood
  refine xm_goodNodes (u := (f_active, f_epoch, a_dataNodeDown, a_journalDown, a_masterDown, a_inTouch, a_promise, a_base, a_logLength, a_logEpoch, a_logKind, a_logA, a_logB, a_logC, a_inodeState, a_inodePlace, a_inodeClient, a_closeUnits, a_rowLength, a_rowBlock, a_blockStamp, a_replicaHeld, a_replicaStamp, a_unitCount, a_unitValue)) h hI hD hb hb16 ?_
  generalize rd_g nu st b (qt_sp T b) = f at h1 h0 ⊢
  refine ⟨6, lq_f (fun n d s => wX_hasTooFewGood_11 post (nI (rd_mk f 5)) f_active f_epoch a_dataNodeDown a_journalDown a_masterDown a_inTouch a_promise a_base a_logLength a_logEpoch a_logKind a_logA a_logB a_logC a_inodeState a_inodePlace a_inodeClient a_closeUnits a_rowLength a_rowBlock a_blockStamp a_replicaHeld a_replicaStamp a_unitCount a_unitValue n s (nI d)) 5 (fun d => nI (rd_cn f d)) (fun n => br_t lb_t ?_) (fun n d hd H => ?_) 6 0 (by omega) (by omega)⟩
  · have hl := rd_cnL f 5
    exact cd_if (nI_leI (b := 0) (by omega) (by decide)) (fun z => h0 (fun y => by omega)) (fun z => cd_if (nI_leI (a := 3) (by decide) (by omega)) (fun y => h0 (fun x => by omega)) (fun y => h1 (by omega) (by omega)))
  · refine br_f (lb_f hd) (xm_isIn hd (fun z => br_f bo_1 (nm_r (rd_cnT z) (nm_r (nI_1 d) H))) (fun z => br_t rfl (nm_r (nI_1 d) ?_)))
    rw [← rd_cnF z]; exact H
end
section
/-! reading the tables: the reference -/
theorem ym_in {post : Int32 → Prop} {x y : Int32} {N n : Nat} (h : ix_c x N n) (hN : N < 2 ^ 31) (hy : y = nI N) (h1 : n < N → post 1) (h0 : n = N → post 0) : wpY_in post x y := ix_t h hy hN (fun a _ => h1 a) h0
theorem ym_isDirectory {T : qt_T} {v : SY} (h : sy_T T v) (hI : qt_iv T) {post : Int32 → Prop} {i : Int32} {n : Nat} (hn : ix_c i 12 n) (h1 : n < 12 → qt_so T n = 1 → post 1) (h0 : (n < 12 → qt_so T n ≠ 1) → post 0) : wpY_isDirectory post v i := by
  obtain ⟨f_active, f_epoch, a_nodeUp, a_journalUp, a_masterUp, a_touch, a_log, a_many, a_promise, a_base, a_stamp, a_units, a_unit, a_sort, a_placeOf, a_client, a_rowLength, a_row, a_closedWith, a_stampOf⟩ := v
  unfold wpY_isDirectory
  refine ym_in hn (by decide) rfl (fun hlt => br_f bo_1 ?_) (fun e => br_t rfl (h0 (fun hlt => by omega)))
  have e := ix_i hn hlt
  subst e
  have hb := qt_iv3 hI n hlt
  exact ⟨vp_in_nI hlt (by decide), cd_if (cd_e (c := 1) (qt_ag1 h n hlt) (by omega) (by omega) (by decide)) (fun z => h1 hlt z) (fun z => h0 (fun _ => z))⟩
theorem ym_isFile {T : qt_T} {v : SY} (h : sy_T T v) (hI : qt_iv T) {post : Int32 → Prop} {i : Int32} {n : Nat} (hn : ix_c i 12 n) (h1 : n < 12 → 2 ≤ qt_so T n → post 1) (h0 : (n < 12 → qt_so T n < 2) → post 0) : wpY_isFile post v i := by
  obtain ⟨f_active, f_epoch, a_nodeUp, a_journalUp, a_masterUp, a_touch, a_log, a_many, a_promise, a_base, a_stamp, a_units, a_unit, a_sort, a_placeOf, a_client, a_rowLength, a_row, a_closedWith, a_stampOf⟩ := v
  unfold wpY_isFile
  refine ym_in hn (by decide) rfl (fun hlt => br_f bo_1 ?_) (fun e => br_t rfl (h0 (fun hlt => by omega)))
  have e := ix_i hn hlt
  subst e
  have hb := qt_iv3 hI n hlt
  exact ⟨vp_in_nI hlt (by decide), cd_if (cd_ge (c := 1) (qt_ag1 h n hlt) (by omega) (by omega) (by decide)) (fun z => h0 (fun _ => by omega)) (fun z => h1 hlt (by omega))⟩
theorem ym_named {T : qt_T} {v : SY} (h : sy_T T v) (hI : qt_iv T) {post : Int32 → Prop} {D N m : Nat} (hD : D < 12) (hN : N < 8) (hm : ls_f (fun i => 1 ≤ i ∧ qt_so T i ≠ 0 ∧ qt_pl T i = 8 * D + N + 1) 12 m) (hp : post (ls_v 12 m)) : wpY_named post v (nI D) (nI N) := by
  obtain ⟨f_active, f_epoch, a_nodeUp, a_journalUp, a_masterUp, a_touch, a_log, a_many, a_promise, a_base, a_stamp, a_units, a_unit, a_sort, a_placeOf, a_client, a_rowLength, a_row, a_closedWith, a_stampOf⟩ := v
  have e8 : (8 : Int32) * nI D + nI N = nI (8 * D + N) := mu_l D 8 N
  have hm1 : 1 ≤ m := by
    by_cases z : m = 0
    · subst z; exact (hm.2.2 (by decide)).1
    · omega
  refine ⟨13, lq_s (fun n d => wY_named_2 post (nI D) (nI N) f_active f_epoch a_nodeUp a_journalUp a_masterUp a_touch a_log a_many a_promise a_base a_stamp a_units a_unit a_sort a_placeOf a_client a_rowLength a_row a_closedWith a_stampOf n (nI d)) 12 m hm.1 (fun n e => ?_) (fun n hlt => ?_) (fun n d hd H => ?_) 13 1 (by omega) (by omega)⟩
  · subst e
    rw [ls_vN] at hp
    exact br_t lb_t hp
  · have hb := qt_iv3 hI m hlt
    obtain ⟨p1, p2, p3⟩ := hm.2.2 hlt
    rw [ls_vS hlt] at hp
    exact br_f (lb_f hlt) ⟨vp_in_nI hlt (by decide), br_f ((not_congr (cd_e (c := 0) (qt_ag1 h m hlt) (by omega) (by omega) (by decide))).mpr p2) ⟨vp_in_nI hlt (by decide), br_t (by rw [e8]; exact (cd_me (qt_ag2 h m hlt) (by omega) (by omega) (by omega)).mpr p3) hp⟩⟩
  · have hlt : d < 12 := by have := hm.1; omega
    have hb := qt_iv3 hI d hlt
    have hnp := hm.2.1 d hd
    refine br_f (lb_f hlt) ⟨vp_in_nI hlt (by decide), cd_if (cd_e (c := 0) (qt_ag1 h d hlt) (by omega) (by omega) (by decide)) (fun z => nm_r (nI_1 d) H) (fun z => ⟨vp_in_nI hlt (by decide), br_f ?_ (nm_r (nI_1 d) H)⟩)⟩
    rw [e8]
    by_cases h0 : d = 0
    · subst h0
      rw [cd_me (qt_ag2 h 0 hlt) (by omega) (by rw [qt_iv2 hI]; decide) (by omega), qt_iv2 hI]
      omega
    · have hp6 := qt_iv6 hI d (by omega) hlt z
      rw [cd_me (qt_ag2 h d hlt) (by omega) (by omega) (by omega)]
      exact fun y => hnp ⟨by omega, z, y⟩
theorem ix_0 {n : Nat} (h : n < 2 ^ 31) : 0 ≤ nI n := nI_pos' h
theorem ix_n1 : ¬ (0 : Int32) ≤ -1 := by decide
theorem ym_isFree {T : qt_T} {v : SY} (h : sy_T T v) (hI : qt_iv T) {post : Int32 → Prop} {p q : Int32} {d x : Nat} (hd : ix_c p 12 d) (hx : ix_c q 8 x) (h1 : qt_fr T d x → post 1) (h0 : ¬ qt_fr T d x → post 0) : wpY_isFree post v p q := by
  obtain ⟨f_active, f_epoch, a_nodeUp, a_journalUp, a_masterUp, a_touch, a_log, a_many, a_promise, a_base, a_stamp, a_units, a_unit, a_sort, a_placeOf, a_client, a_rowLength, a_row, a_closedWith, a_stampOf⟩ := v
  unfold wpY_isFree
  refine ym_isDirectory (v := (f_active, f_epoch, a_nodeUp, a_journalUp, a_masterUp, a_touch, a_log, a_many, a_promise, a_base, a_stamp, a_units, a_unit, a_sort, a_placeOf, a_client, a_rowLength, a_row, a_closedWith, a_stampOf)) h hI hd (fun hlt hs => br_f bo_1 ?_) (fun hs => br_t rfl (h0 (fun z => hs z.1 z.2.2.1)))
  refine ym_in hx (by decide) rfl (fun hl => br_f bo_1 ?_) (fun e => br_t rfl (h0 (fun z => by have := z.2.1; omega)))
  have e := ix_i hx hl
  have e' := ix_i hd hlt
  subst e e'
  obtain ⟨m, hm⟩ := ls_ex (fun i => 1 ≤ i ∧ qt_so T i ≠ 0 ∧ qt_pl T i = 8 * d + x + 1) 12
  refine ym_named (v := (f_active, f_epoch, a_nodeUp, a_journalUp, a_masterUp, a_touch, a_log, a_many, a_promise, a_base, a_stamp, a_units, a_unit, a_sort, a_placeOf, a_client, a_rowLength, a_row, a_closedWith, a_stampOf)) h hI hlt hl hm ?_
  by_cases hmm : m < 12
  · rw [ls_vS hmm]
    exact br_t (ix_0 (by omega)) (h0 (fun z => z.2.2.2 m (hm.2.2 hmm).1 hmm (hm.2.2 hmm).2.1 (hm.2.2 hmm).2.2))
  · have e : m = 12 := by have := hm.1; omega
    subst e
    rw [ls_vN]
    exact br_f ix_n1 (h1 ⟨hlt, hl, hs, fun i i1 i2 i3 i4 => hm.2.1 i i2 ⟨i1, i3, i4⟩⟩)
theorem qt_ef0 {T : qt_T} {D : Nat} : qt_ef T D 0 = false := by unfold qt_ef; exact decide_eq_false (fun y => by omega)
theorem ym_inside {T : qt_T} {v : SY} (h : sy_T T v) (hI : qt_iv T) {post : Int32 → Prop} {D : Nat} (hD : D < 12) (hp : post (nI (rd_cn (qt_ef T D) 12))) : wpY_inside post v (nI D) := by
  obtain ⟨f_active, f_epoch, a_nodeUp, a_journalUp, a_masterUp, a_touch, a_log, a_many, a_promise, a_base, a_stamp, a_units, a_unit, a_sort, a_placeOf, a_client, a_rowLength, a_row, a_closedWith, a_stampOf⟩ := v
  have h1 : nI (rd_cn (qt_ef T D) 1) = 0 := by rw [rd_cnF qt_ef0]; rfl
  have key := lq_g (fun n d s => wY_inside_4 post (nI D) f_active f_epoch a_nodeUp a_journalUp a_masterUp a_touch a_log a_many a_promise a_base a_stamp a_units a_unit a_sort a_placeOf a_client a_rowLength a_row a_closedWith a_stampOf n s (nI d)) 1 12 (fun d => nI (rd_cn (qt_ef T D) d)) (fun n => br_t lb_t hp) (fun n d hd1 hd H => ?_) 13 1 (by omega) (by omega) (by omega)
  · refine ⟨13, ?_⟩
    have key' : wY_inside_4 post (nI D) f_active f_epoch a_nodeUp a_journalUp a_masterUp a_touch a_log a_many a_promise a_base a_stamp a_units a_unit a_sort a_placeOf a_client a_rowLength a_row a_closedWith a_stampOf 13 (nI (rd_cn (qt_ef T D) 1)) (nI 1) := key
    rw [h1] at key'
    exact key'
  · have hb := qt_iv3 hI d hd
    have hF : qt_ef T D d = false → wY_inside_4 post (nI D) f_active f_epoch a_nodeUp a_journalUp a_masterUp a_touch a_log a_many a_promise a_base a_stamp a_units a_unit a_sort a_placeOf a_client a_rowLength a_row a_closedWith a_stampOf n (nI (rd_cn (qt_ef T D) d)) (nI (d + 1)) := by
      intro z
      rw [← rd_cnF z]; exact H
    refine br_f (lb_f hd) ⟨vp_in_nI hd (by decide), cd_if (cd_e (c := 0) (qt_ag1 h d hd) (by omega) (by omega) (by decide)) (fun z => nm_r (nI_1 d) (hF ?_)) (fun z => ⟨vp_in_nI hd (by decide), by decide, ?_⟩)⟩
    · unfold qt_ef; exact decide_eq_false (fun y => y.2.1 z)
    · have h6 := qt_iv6 hI d hd1 hd z
      have e : a_placeOf (nI d).toNatClampNeg / 8 = nI (qt_pa (qt_pl T) d) := by
        rw [nI_clamp (by omega), qt_ag2 h d hd]
        obtain ⟨p, hp⟩ : ∃ p, qt_pl T d = p + 1 := ⟨qt_pl T d - 1, by omega⟩
        unfold qt_pa
        rw [hp, qt_ms]
        exact pk_div (d := 8) (by omega) (by decide) (by decide)
      rw [e]
      have hpa : qt_pa (qt_pl T) d < 12 := by unfold qt_pa; omega
      refine cd_if (nI_eq (by omega) (by omega)) (fun y => ?_) (fun y => nm_r (nI_1 d) (hF ?_))
      · have hf : qt_ef T D d = true := by unfold qt_ef; exact decide_eq_true ⟨by omega, z, y⟩
        exact nm_r (rd_cnT hf) (nm_r (nI_1 d) H)
      · unfold qt_ef; exact decide_eq_false (fun x => y x.2.2)
theorem ym_last {T : qt_T} {v : SY} (h : sy_T T v) (hI : qt_iv T) {post : Int32 → Prop} {f : Nat} (hf : f < 12) (h0 : qt_rl T f = 0 → post (-1)) (h1 : 0 < qt_rl T f → post (nI (qt_ro T (3 * f + (qt_rl T f - 1))))) : wpY_last post v (nI f) := by
  obtain ⟨f_active, f_epoch, a_nodeUp, a_journalUp, a_masterUp, a_touch, a_log, a_many, a_promise, a_base, a_stamp, a_units, a_unit, a_sort, a_placeOf, a_client, a_rowLength, a_row, a_closedWith, a_stampOf⟩ := v
  have hb := qt_iv4 hI f hf
  refine ⟨vp_in_nI hf (by decide), cd_if (cd_e (c := 0) (qt_ag5 h f hf) (by omega) (by omega) (by decide)) h0 (fun z => ⟨vp_in_nI hf (by decide), ?_⟩)⟩
  have e : 3 * nI f + a_rowLength (nI f).toNatClampNeg - 1 = nI (3 * f + (qt_rl T f - 1)) := by
    rw [nI_clamp (by omega), qt_ag5 h f hf, show (3 : Int32) = nI 3 from rfl, mu_l, show 3 * f + qt_rl T f = (3 * f + (qt_rl T f - 1)) + 1 by omega, nI_pred]
  rw [e]
  refine ⟨vp_in_nI (by omega) (by decide), ?_⟩
  rw [nI_clamp (by omega), qt_ag6 h f (qt_rl T f - 1) hf (by omega)]
  exact h1 (by omega)
theorem ym_inRow {T : qt_T} {v : SY} (h : sy_T T v) (hI : qt_iv T) {post : Int32 → Prop} {b : Nat} (hb : b < 16) (h1 : qt_in (qt_rl T) (qt_ro T) b → post 1) (h0 : ¬ qt_in (qt_rl T) (qt_ro T) b → post 0) : wpY_inRow post v (nI b) := by
  obtain ⟨f_active, f_epoch, a_nodeUp, a_journalUp, a_masterUp, a_touch, a_log, a_many, a_promise, a_base, a_stamp, a_units, a_unit, a_sort, a_placeOf, a_client, a_rowLength, a_row, a_closedWith, a_stampOf⟩ := v
  have inner : ∀ (J : Int32 → Prop) f, f < 12 → ∀ k n j, j + k = qt_rl T f → k < n → ((∀ i, j ≤ i → i < qt_rl T f → qt_ro T (3 * f + i) ≠ b) → J (nI (f + 1))) → wY_inRow_10 post J (nI b) (nI f) f_active f_epoch a_nodeUp a_journalUp a_masterUp a_touch a_log a_many a_promise a_base a_stamp a_units a_unit a_sort a_placeOf a_client a_rowLength a_row a_closedWith a_stampOf n (nI j) := by
    intro J f hf k
    have hr := qt_iv4 hI f hf
    induction k with
    | zero =>
      intro n j hj hn HJ
      obtain ⟨n, rfl⟩ : ∃ n', n = n' + 1 := ⟨n - 1, by omega⟩
      have e : j = qt_rl T f := by omega
      exact ⟨vp_in_nI hf (by decide), br_t ((cd_ge (qt_ag5 h f hf) (by omega) (by omega) (by omega)).mpr (by omega)) (nm_r (nI_1 f) (HJ (fun i a b => by omega)))⟩
    | succ k ih =>
      intro n j hj hn HJ
      obtain ⟨n, rfl⟩ : ∃ n', n = n' + 1 := ⟨n - 1, by omega⟩
      have h5 := qt_iv5 hI f j hf (by omega)
      refine ⟨vp_in_nI hf (by decide), br_f ((not_congr (cd_ge (qt_ag5 h f hf) (by omega) (by omega) (by omega))).mpr (by omega)) ?_⟩
      rw [show 3 * nI f + nI j = nI (3 * f + j) from mu_l f 3 j]
      refine ⟨vp_in_nI (by omega) (by decide), cd_if (cd_e (qt_ag6 h f j hf (by omega)) (by omega) (by omega) (by omega)) (fun z => h1 ⟨f, j, hf, by omega, z⟩) (fun z => nm_r (nI_1 j) (ih n (j + 1) (by omega) (by omega) (fun H => HJ (fun i a b => ?_))))⟩
      by_cases e : i = j
      · subst e; exact z
      · exact H i (by omega) b
  have outer : ∀ k n f, f + k = 12 → k < n → (∀ g, g < f → ∀ i, i < qt_rl T g → qt_ro T (3 * g + i) ≠ b) → wY_inRow_2 post (nI b) f_active f_epoch a_nodeUp a_journalUp a_masterUp a_touch a_log a_many a_promise a_base a_stamp a_units a_unit a_sort a_placeOf a_client a_rowLength a_row a_closedWith a_stampOf n (nI f) := by
    intro k
    induction k with
    | zero =>
      intro n f hf hn H
      obtain ⟨n, rfl⟩ : ∃ n', n = n' + 1 := ⟨n - 1, by omega⟩
      have e : f = 12 := by omega
      subst e
      exact br_t lb_t (h0 (fun ⟨g, i, hg, hi, z⟩ => H g hg i hi z))
    | succ k ih =>
      intro n f hf hn H
      obtain ⟨n, rfl⟩ : ∃ n', n = n' + 1 := ⟨n - 1, by omega⟩
      have hf' : f < 12 := by omega
      have hr := qt_iv4 hI f hf'
      refine br_f (lb_f hf') ⟨4, inner _ f hf' (qt_rl T f) 4 0 (by omega) (by omega) (fun H' => ih n (f + 1) (by omega) (by omega) (fun g hg i hi => ?_))⟩
      by_cases e : g = f
      · subst e; exact H' i (by omega) hi
      · exact H g (by omega) i hi
  exact ⟨13, outer 12 13 0 (by omega) (by omega) (fun g hg => by omega)⟩
theorem ym_unused {T : qt_T} {v : SY} (h : sy_T T v) (hI : qt_iv T) {post : Int32 → Prop} {m : Nat} (hm : ls_f (fun b => ¬ qt_in (qt_rl T) (qt_ro T) b) 16 m) (hp : post (ls_v 16 m)) : wpY_unused post v := by
  obtain ⟨f_active, f_epoch, a_nodeUp, a_journalUp, a_masterUp, a_touch, a_log, a_many, a_promise, a_base, a_stamp, a_units, a_unit, a_sort, a_placeOf, a_client, a_rowLength, a_row, a_closedWith, a_stampOf⟩ := v
  refine ⟨17, lq_s (fun n d => wY_unused_2 post f_active f_epoch a_nodeUp a_journalUp a_masterUp a_touch a_log a_many a_promise a_base a_stamp a_units a_unit a_sort a_placeOf a_client a_rowLength a_row a_closedWith a_stampOf n (nI d)) 16 m hm.1 (fun n e => ?_) (fun n hlt => ?_) (fun n d hd H => ?_) 17 0 (by omega) (by omega)⟩
  · subst e
    rw [ls_vN] at hp
    exact br_t lb_t hp
  · rw [ls_vS hlt] at hp
    exact br_f (lb_f hlt) (ym_inRow (v := (f_active, f_epoch, a_nodeUp, a_journalUp, a_masterUp, a_touch, a_log, a_many, a_promise, a_base, a_stamp, a_units, a_unit, a_sort, a_placeOf, a_client, a_rowLength, a_row, a_closedWith, a_stampOf)) h hI hlt (fun z => absurd z (hm.2.2 hlt)) (fun _ => br_t rfl hp))
  · have hlt : d < 16 := by have := hm.1; omega
    exact br_f (lb_f hlt) (ym_inRow (v := (f_active, f_epoch, a_nodeUp, a_journalUp, a_masterUp, a_touch, a_log, a_many, a_promise, a_base, a_stamp, a_units, a_unit, a_sort, a_placeOf, a_client, a_rowLength, a_row, a_closedWith, a_stampOf)) h hI hlt (fun _ => br_f bo_1 (nm_r (nI_1 d) H)) (fun z => absurd z (hm.2.1 d hd)))
theorem ym_isOpenLast {T : qt_T} {v : SY} (h : sy_T T v) (hI : qt_iv T) {post : Int32 → Prop} {b : Nat} (hb : b < 16) (h1 : qt_ol T b → post 1) (h0 : ¬ qt_ol T b → post 0) : wpY_isOpenLast post v (nI b) := by
  obtain ⟨f_active, f_epoch, a_nodeUp, a_journalUp, a_masterUp, a_touch, a_log, a_many, a_promise, a_base, a_stamp, a_units, a_unit, a_sort, a_placeOf, a_client, a_rowLength, a_row, a_closedWith, a_stampOf⟩ := v
  have outer : ∀ k n f, f + k = 12 → k < n → (∀ g, g < f → qt_so T g = 2 → 0 < qt_rl T g → qt_ro T (3 * g + (qt_rl T g - 1)) ≠ b) → wY_isOpenLast_2 post (nI b) f_active f_epoch a_nodeUp a_journalUp a_masterUp a_touch a_log a_many a_promise a_base a_stamp a_units a_unit a_sort a_placeOf a_client a_rowLength a_row a_closedWith a_stampOf n (nI f) := by
    intro k
    induction k with
    | zero =>
      intro n f hf hn H
      obtain ⟨n, rfl⟩ : ∃ n', n = n' + 1 := ⟨n - 1, by omega⟩
      have e : f = 12 := by omega
      subst e
      exact br_t lb_t (h0 (fun ⟨g, hg, z1, z2, z3⟩ => H g hg z1 z2 z3))
    | succ k ih =>
      intro n f hf hn H
      obtain ⟨n, rfl⟩ : ∃ n', n = n' + 1 := ⟨n - 1, by omega⟩
      have hf' : f < 12 := by omega
      have hs3 := qt_iv3 hI f hf'
      have go : (qt_so T f = 2 → 0 < qt_rl T f → qt_ro T (3 * f + (qt_rl T f - 1)) ≠ b) → wY_isOpenLast_2 post (nI b) f_active f_epoch a_nodeUp a_journalUp a_masterUp a_touch a_log a_many a_promise a_base a_stamp a_units a_unit a_sort a_placeOf a_client a_rowLength a_row a_closedWith a_stampOf n (nI (f + 1)) := by
        intro z
        refine ih n (f + 1) (by omega) (by omega) (fun g hg => ?_)
        by_cases e : g = f
        · subst e; exact z
        · exact H g (by omega)
      refine br_f (lb_f hf') (ym_last (v := (f_active, f_epoch, a_nodeUp, a_journalUp, a_masterUp, a_touch, a_log, a_many, a_promise, a_base, a_stamp, a_units, a_unit, a_sort, a_placeOf, a_client, a_rowLength, a_row, a_closedWith, a_stampOf)) h hI hf' (fun z => ⟨vp_in_nI hf' (by decide), cd_if (cd_e (c := 2) (qt_ag1 h f hf') (by omega) (by omega) (by decide)) (fun hs => br_f (fun y => ix_m1 (n := b) (by omega) y.symm) (nm_r (nI_1 f) (go (fun _ y => by omega)))) (fun hs => nm_r (nI_1 f) (go (fun y => absurd y hs)))⟩) (fun z => ⟨vp_in_nI hf' (by decide), cd_if (cd_e (c := 2) (qt_ag1 h f hf') (by omega) (by omega) (by decide)) (fun hs => ?_) (fun hs => nm_r (nI_1 f) (go (fun y => absurd y hs)))⟩))
      have h5 := qt_iv5 hI f (qt_rl T f - 1) hf' (by omega)
      exact cd_if (nI_eq (by omega) (by omega)) (fun y => h1 ⟨f, hf', hs, z, y⟩) (fun y => nm_r (nI_1 f) (go (fun _ _ => y)))
  exact ⟨13, outer 12 13 0 (by omega) (by omega) (fun g hg => by omega)⟩
end
section
/-! reading the replicas: the reference -/
theorem ym_goodStamp {T : qt_T} {nu : Nat → Bool} {st un : Nat → Nat} {ua : Nat → Int32} {v : SY} (h : sy_T T v) (hI : qt_iv T) (hD : sy_D (nu, st, un, ua) v) (hb : rd_bd (nu, st, un, ua)) {post : Int32 → Prop} {b : Nat} (hb16 : b < 16) (hin : qt_in (qt_rl T) (qt_ro T) b) (hp : post (qt_m (rd_G nu st b (qt_sp T b)))) : wpY_goodStamp post v (nI b) := by
  obtain ⟨f_active, f_epoch, a_nodeUp, a_journalUp, a_masterUp, a_touch, a_log, a_many, a_promise, a_base, a_stamp, a_units, a_unit, a_sort, a_placeOf, a_client, a_rowLength, a_row, a_closedWith, a_stampOf⟩ := v
  have h8 := qt_iv8 hI b hb16
  have hB : ∀ n, n ≤ 5 → rd_gm nu st b n ≤ 2000000 := fun n hn => rd_gmB hb16 hb.1 hn
  refine ⟨6, lq_f (fun n d s => wY_goodStamp_4 post (nI b) f_active f_epoch a_nodeUp a_journalUp a_masterUp a_touch a_log a_many a_promise a_base a_stamp a_units a_unit a_sort a_placeOf a_client a_rowLength a_row a_closedWith a_stampOf n s (nI d)) 5 (fun d => qt_m (rd_gm nu st b d)) (fun n => br_t lb_t ⟨vp_in_nI hb16 (by decide), ?_⟩) (fun n d hd H => ?_) 6 0 (by omega) (by omega)⟩
  · have hg := hB 5 (by decide)
    have e : a_stampOf (nI b).toNatClampNeg = nI (qt_sp T b) := by rw [nI_clamp (by omega)]; exact qt_ag7 h b hb16 (Or.inr hin)
    rw [e]
    unfold rd_G at hp
    refine cd_if (qt_mN (a := rd_gm nu st b 5) (by omega) (by omega)) (fun z => ?_) (fun z => ?_)
    · rw [if_neg (by omega), qt_m0] at hp; exact hp
    · rw [if_pos (by omega)] at hp; exact hp
  · have hg := hB d (by omega)
    have hc : 16 * d + b < 80 := by omega
    have hs := hb.1 (16 * d + b) hc
    have H' : wY_goodStamp_4 post (nI b) f_active f_epoch a_nodeUp a_journalUp a_masterUp a_touch a_log a_many a_promise a_base a_stamp a_units a_unit a_sort a_placeOf a_client a_rowLength a_row a_closedWith a_stampOf n (qt_m (rd_gm nu st b (d + 1))) (nI (d + 1)) := H
    rw [rd_gmS] at H'
    have es : a_stamp (nI (16 * d + b)).toNatClampNeg = qt_m (st (16 * d + b)) := by rw [nI_clamp (by omega)]; exact hD.2.1 _ hc
    refine br_f (lb_f hd) ⟨vp_in_nI hd (by decide), cd_if (cd_p (hD.1 d hd) (by omega)) (fun hu => nm_r (nI_1 d) ?_) (fun hu => ?_)⟩
    · rw [if_neg (fun w => by rw [hu] at w; exact absurd w.1 (by decide))] at H'; exact H'
    · have hu' : nu d = true := by simpa using hu
      rw [show 16 * nI d + nI b = nI (16 * d + b) from mu_l d 16 b, es]
      refine ⟨vp_in_nI hc (by decide), cd_if (qt_mle (b := rd_gm nu st b d) (by omega) (by omega)) (fun x => nm_r (nI_1 d) ?_) (fun x => ⟨vp_in_nI hc (by decide), nm_e (nm_r (nI_1 d) ?_)⟩)⟩
      · rw [if_neg (fun w => by omega)] at H'; exact H'
      · rw [if_pos ⟨hu', by omega⟩] at H'; exact H'
theorem rd_GB {nu : Nat → Bool} {st : Nat → Nat} {b s B : Nat} (hb : b < 16) (h : ∀ c, c < 80 → st c ≤ B) : rd_G nu st b s ≤ B := by
  have := rd_gmB (nu := nu) hb h (n := 5) (by decide)
  unfold rd_G
  split <;> omega
theorem ym_isGood {T : qt_T} {nu : Nat → Bool} {st un : Nat → Nat} {ua : Nat → Int32} {v : SY} (h : sy_T T v) (hI : qt_iv T) (hD : sy_D (nu, st, un, ua) v) (hb : rd_bd (nu, st, un, ua)) {post : Int32 → Prop} {b d : Nat} (hb16 : b < 16) (hin : qt_in (qt_rl T) (qt_ro T) b) (hd : d < 5) (h1 : rd_g nu st b (qt_sp T b) d = true → post 1) (h0 : rd_g nu st b (qt_sp T b) d = false → post 0) : wpY_isGood post v (nI d) (nI b) := by
  obtain ⟨f_active, f_epoch, a_nodeUp, a_journalUp, a_masterUp, a_touch, a_log, a_many, a_promise, a_base, a_stamp, a_units, a_unit, a_sort, a_placeOf, a_client, a_rowLength, a_row, a_closedWith, a_stampOf⟩ := v
  unfold wpY_isGood
  have hG := rd_GB (nu := nu) (s := qt_sp T b) hb16 hb.1
  have hc : 16 * d + b < 80 := by omega
  have hs := hb.1 (16 * d + b) hc
  have es : a_stamp (nI (16 * d + b)).toNatClampNeg = qt_m (st (16 * d + b)) := by rw [nI_clamp (by omega)]; exact hD.2.1 _ hc
  have hn : ¬ (0 < rd_G nu st b (qt_sp T b) ∧ nu d = true ∧ st (16 * d + b) = rd_G nu st b (qt_sp T b)) → post 0 := by
    intro z
    refine h0 ?_
    unfold rd_g
    exact decide_eq_false z
  refine ym_goodStamp (v := (f_active, f_epoch, a_nodeUp, a_journalUp, a_masterUp, a_touch, a_log, a_many, a_promise, a_base, a_stamp, a_units, a_unit, a_sort, a_placeOf, a_client, a_rowLength, a_row, a_closedWith, a_stampOf)) h hI hD hb hb16 hin (cd_if (qt_mZ (by omega)) (fun z => hn (fun y => by omega)) (fun z => ⟨vp_in_nI hd (by decide), cd_if (cd_p (hD.1 d hd) (by omega)) (fun hu => hn (fun y => by rw [hu] at y; exact absurd y.2.1 (by decide))) (fun hu => ?_)⟩))
  rw [show 16 * nI d + nI b = nI (16 * d + b) from mu_l d 16 b, es]
  exact ⟨vp_in_nI hc (by decide), cd_if (qt_mE (by omega) (by omega)) (fun y => h1 (rd_gI.mpr ⟨by omega, by simpa using hu, y⟩)) (fun y => hn (fun x => y x.2.2))⟩
theorem ym_first {T : qt_T} {nu : Nat → Bool} {st un : Nat → Nat} {ua : Nat → Int32} {v : SY} (h : sy_T T v) (hI : qt_iv T) (hD : sy_D (nu, st, un, ua) v) (hb : rd_bd (nu, st, un, ua)) {post : Int32 → Prop} {b m : Nat} (hb16 : b < 16) (hin : qt_in (qt_rl T) (qt_ro T) b) (hm : ls_f (fun d => rd_g nu st b (qt_sp T b) d = true) 5 m) (hp : post (ls_v 5 m)) : wpY_first post v (nI b) := by
  obtain ⟨f_active, f_epoch, a_nodeUp, a_journalUp, a_masterUp, a_touch, a_log, a_many, a_promise, a_base, a_stamp, a_units, a_unit, a_sort, a_placeOf, a_client, a_rowLength, a_row, a_closedWith, a_stampOf⟩ := v
  refine ⟨6, lq_s (fun n d => wY_first_2 post (nI b) f_active f_epoch a_nodeUp a_journalUp a_masterUp a_touch a_log a_many a_promise a_base a_stamp a_units a_unit a_sort a_placeOf a_client a_rowLength a_row a_closedWith a_stampOf n (nI d)) 5 m hm.1 (fun n e => ?_) (fun n hlt => ?_) (fun n d hd H => ?_) 6 0 (by omega) (by omega)⟩
  · subst e
    rw [ls_vN] at hp
    exact br_t lb_t hp
  · rw [ls_vS hlt] at hp
    have z := hm.2.2 hlt
    exact br_f (lb_f hlt) (ym_isGood (v := (f_active, f_epoch, a_nodeUp, a_journalUp, a_masterUp, a_touch, a_log, a_many, a_promise, a_base, a_stamp, a_units, a_unit, a_sort, a_placeOf, a_client, a_rowLength, a_row, a_closedWith, a_stampOf)) h hI hD hb hb16 hin hlt (fun _ => br_f bo_1 hp) (fun y => absurd (y.symm.trans z) (by decide)))
  · have hlt : d < 5 := by have := hm.1; omega
    have z := hm.2.1 d hd
    exact br_f (lb_f hlt) (ym_isGood (v := (f_active, f_epoch, a_nodeUp, a_journalUp, a_masterUp, a_touch, a_log, a_many, a_promise, a_base, a_stamp, a_units, a_unit, a_sort, a_placeOf, a_client, a_rowLength, a_row, a_closedWith, a_stampOf)) h hI hD hb hb16 hin hlt (fun y => absurd y z) (fun _ => br_t rfl (nm_r (nI_1 d) H)))
theorem ym_goodOnes {T : qt_T} {nu : Nat → Bool} {st un : Nat → Nat} {ua : Nat → Int32} {v : SY} (h : sy_T T v) (hI : qt_iv T) (hD : sy_D (nu, st, un, ua) v) (hb : rd_bd (nu, st, un, ua)) {post : Int32 → Prop} {b : Nat} (hb16 : b < 16) (hin : qt_in (qt_rl T) (qt_ro T) b) (hp : post (nI (rd_mk (rd_g nu st b (qt_sp T b)) 5))) : wpY_goodOnes post v (nI b) := by
  obtain ⟨f_active, f_epoch, a_nodeUp, a_journalUp, a_masterUp, a_touch, a_log, a_many, a_promise, a_base, a_stamp, a_units, a_unit, a_sort, a_placeOf, a_client, a_rowLength, a_row, a_closedWith, a_stampOf⟩ := v
  refine ⟨6, lq_f (fun n d s => wY_goodOnes_4 post (nI b) f_active f_epoch a_nodeUp a_journalUp a_masterUp a_touch a_log a_many a_promise a_base a_stamp a_units a_unit a_sort a_placeOf a_client a_rowLength a_row a_closedWith a_stampOf n s (nI d)) 5 (fun d => nI (rd_mk (rd_g nu st b (qt_sp T b)) d)) (fun n => br_t lb_t hp) (fun n d hd H => ?_) 6 0 (by omega) (by omega)⟩
  have H' : wY_goodOnes_4 post (nI b) f_active f_epoch a_nodeUp a_journalUp a_masterUp a_touch a_log a_many a_promise a_base a_stamp a_units a_unit a_sort a_placeOf a_client a_rowLength a_row a_closedWith a_stampOf n (nI (rd_mk (rd_g nu st b (qt_sp T b)) (d + 1))) (nI (d + 1)) := H
  rw [rd_mkS] at H'
  have hl := rd_mkL (rd_g nu st b (qt_sp T b)) d
  have hl2 : 2 ^ d ≤ 16 := by
    have : 2 ^ d ≤ 2 ^ 4 := Nat.pow_le_pow_right (by decide) (by omega)
    omega
  refine br_f (lb_f hd) (ym_isGood (v := (f_active, f_epoch, a_nodeUp, a_journalUp, a_masterUp, a_touch, a_log, a_many, a_promise, a_base, a_stamp, a_units, a_unit, a_sort, a_placeOf, a_client, a_rowLength, a_row, a_closedWith, a_stampOf)) h hI hD hb hb16 hin hd (fun z => br_f bo_1 (nm_r (rd_orN d hd _ (by omega) hl) (nm_r (nI_1 d) ?_))) (fun z => br_t rfl (nm_r (nI_1 d) ?_)))
  · rw [z] at H'; exact H'
  · rw [z] at H'; exact H'
theorem ym_hangs {T : qt_T} {nu : Nat → Bool} {st un : Nat → Nat} {ua : Nat → Int32} {v : SY} (h : sy_T T v) (hI : qt_iv T) (hD : sy_D (nu, st, un, ua) v) (hb : rd_bd (nu, st, un, ua)) {post : Int32 → Prop} {b : Nat} (hb16 : b < 16) (hin : qt_in (qt_rl T) (qt_ro T) b) (h1 : rd_hg nu st b (qt_sp T b) → post 1) (h0 : ¬ rd_hg nu st b (qt_sp T b) → post 0) : wpY_hangs post v (nI b) := by
  obtain ⟨f_active, f_epoch, a_nodeUp, a_journalUp, a_masterUp, a_touch, a_log, a_many, a_promise, a_base, a_stamp, a_units, a_unit, a_sort, a_placeOf, a_client, a_rowLength, a_row, a_closedWith, a_stampOf⟩ := v
  unfold wpY_hangs
  have hG := rd_GB (nu := nu) (s := qt_sp T b) hb16 hb.1
  refine ym_goodStamp (v := (f_active, f_epoch, a_nodeUp, a_journalUp, a_masterUp, a_touch, a_log, a_many, a_promise, a_base, a_stamp, a_units, a_unit, a_sort, a_placeOf, a_client, a_rowLength, a_row, a_closedWith, a_stampOf)) h hI hD hb hb16 hin ?_
  have key : ∀ k n d, d + k = 5 → k < n → (∀ e, e < d → ¬ (0 < rd_G nu st b (qt_sp T b) ∧ nu e = false ∧ st (16 * e + b) = rd_G nu st b (qt_sp T b))) → wY_hangs_8 post (nI b) (qt_m (rd_G nu st b (qt_sp T b))) f_active f_epoch a_nodeUp a_journalUp a_masterUp a_touch a_log a_many a_promise a_base a_stamp a_units a_unit a_sort a_placeOf a_client a_rowLength a_row a_closedWith a_stampOf n (nI d) := by
    intro k
    induction k with
    | zero =>
      intro n d hd hn H
      obtain ⟨n, rfl⟩ : ∃ n', n = n' + 1 := ⟨n - 1, by omega⟩
      have e : d = 5 := by omega
      subst e
      exact br_t lb_t (h0 (fun ⟨e, he, z1, z2, z3⟩ => H e he ⟨z1, z2, z3⟩))
    | succ k ih =>
      intro n d hd hn H
      obtain ⟨n, rfl⟩ : ∃ n', n = n' + 1 := ⟨n - 1, by omega⟩
      have hd5 : d < 5 := by omega
      have hc : 16 * d + b < 80 := by omega
      have hs := hb.1 (16 * d + b) hc
      have es : a_stamp (nI (16 * d + b)).toNatClampNeg = qt_m (st (16 * d + b)) := by rw [nI_clamp (by omega)]; exact hD.2.1 _ hc
      have go : ¬ (0 < rd_G nu st b (qt_sp T b) ∧ nu d = false ∧ st (16 * d + b) = rd_G nu st b (qt_sp T b)) → wY_hangs_8 post (nI b) (qt_m (rd_G nu st b (qt_sp T b))) f_active f_epoch a_nodeUp a_journalUp a_masterUp a_touch a_log a_many a_promise a_base a_stamp a_units a_unit a_sort a_placeOf a_client a_rowLength a_row a_closedWith a_stampOf n (nI (d + 1)) := by
        intro z
        refine ih n (d + 1) (by omega) (by omega) (fun e he => ?_)
        by_cases e' : e = d
        · subst e'; exact z
        · exact H e (by omega)
      refine br_f (lb_f hd5) (cd_if (qt_mZ (by omega)) (fun z => nm_r (nI_1 d) (go (fun y => by omega))) (fun z => ⟨vp_in_nI hd5 (by decide), cd_if (cd_p (hD.1 d hd5) (by omega)) (fun hu => ?_) (fun hu => nm_r (nI_1 d) (go (fun y => hu y.2.1)))⟩))
      rw [show 16 * nI d + nI b = nI (16 * d + b) from mu_l d 16 b, es]
      exact ⟨vp_in_nI hc (by decide), cd_if (qt_mE (by omega) (by omega)) (fun y => h1 ⟨d, hd5, by omega, hu, y⟩) (fun y => nm_r (nI_1 d) (go (fun x => y x.2.2)))⟩
  exact ⟨6, key 5 6 0 (by omega) (by omega) (fun e he => by omega)⟩
theorem ym_bound0 {T : qt_T} {nu : Nat → Bool} {st un : Nat → Nat} {ua : Nat → Int32} {v : SY} (h : sy_T T v) (hI : qt_iv T) (hD : sy_D (nu, st, un, ua) v) (hb : rd_bd (nu, st, un, ua)) {post : Int32 → Prop} {b : Nat} (hb16 : b < 16) (hin : qt_in (qt_rl T) (qt_ro T) b) (hp : post (qt_m (rd_fw (rd_g nu st b (qt_sp T b)) un b 5))) : wpY_bound post v (nI b) 0 := by
  obtain ⟨f_active, f_epoch, a_nodeUp, a_journalUp, a_masterUp, a_touch, a_log, a_many, a_promise, a_base, a_stamp, a_units, a_unit, a_sort, a_placeOf, a_client, a_rowLength, a_row, a_closedWith, a_stampOf⟩ := v
  refine ⟨6, lq_f (fun n d s => wY_bound_5 post (nI b) 0 f_active f_epoch a_nodeUp a_journalUp a_masterUp a_touch a_log a_many a_promise a_base a_stamp a_units a_unit a_sort a_placeOf a_client a_rowLength a_row a_closedWith a_stampOf n s (nI d)) 5 (fun d => qt_m (rd_fw (rd_g nu st b (qt_sp T b)) un b d)) (fun n => br_t lb_t hp) (fun n d hd H => ?_) 6 0 (by omega) (by omega)⟩
  have hc : 16 * d + b < 80 := by omega
  have hu := hb.2 (16 * d + b) hc
  have hw := rd_fwB (f := rd_g nu st b (qt_sp T b)) hb16 hb.2 (n := d) (by omega)
  have H' : wY_bound_5 post (nI b) 0 f_active f_epoch a_nodeUp a_journalUp a_masterUp a_touch a_log a_many a_promise a_base a_stamp a_units a_unit a_sort a_placeOf a_client a_rowLength a_row a_closedWith a_stampOf n (qt_m (rd_fw (rd_g nu st b (qt_sp T b)) un b (d + 1))) (nI (d + 1)) := H
  rw [rd_fwS] at H'
  have eu : a_units (nI (16 * d + b)).toNatClampNeg = nI (un (16 * d + b)) := by rw [nI_clamp (by omega)]; exact hD.2.2.1 _ hc
  refine br_f (lb_f hd) (ym_isGood (v := (f_active, f_epoch, a_nodeUp, a_journalUp, a_masterUp, a_touch, a_log, a_many, a_promise, a_base, a_stamp, a_units, a_unit, a_sort, a_placeOf, a_client, a_rowLength, a_row, a_closedWith, a_stampOf)) h hI hD hb hb16 hin hd (fun z => ?_) (fun z => ?_))
  · show vp_in (16 * nI d + nI b) 80 ∧ _
    rw [show 16 * nI d + nI b = nI (16 * d + b) from mu_l d 16 b]
    refine ⟨vp_in_nI hc (by decide), nm_r eu (br_f bo_1 (cd_if (qt_mZ (by omega)) (fun y => nm_r (nI_1 d) ?_) (fun y => br_t rfl (cd_if (qt_mleN (by omega) (by omega)) (fun x => nm_r (nI_1 d) ?_) (fun x => nm_r (nI_1 d) ?_)))))⟩
    · rw [if_pos ⟨z, Or.inl y⟩, qt_ms] at H'; exact H'
    · rw [if_neg (fun w => by rcases w.2 with v | v <;> omega)] at H'; exact H'
    · rw [if_pos ⟨z, Or.inr (by omega)⟩, qt_ms] at H'; exact H'
  · show vp_in (16 * nI d + nI b) 80 ∧ _
    rw [show 16 * nI d + nI b = nI (16 * d + b) from mu_l d 16 b]
    refine ⟨vp_in_nI hc (by decide), nm_r eu (br_t rfl (nm_r (nI_1 d) ?_))⟩
    rw [if_neg (fun w => by rw [z] at w; exact absurd w.1 (by decide))] at H'; exact H'
theorem ym_bound1 {T : qt_T} {nu : Nat → Bool} {st un : Nat → Nat} {ua : Nat → Int32} {v : SY} (h : sy_T T v) (hI : qt_iv T) (hD : sy_D (nu, st, un, ua) v) (hb : rd_bd (nu, st, un, ua)) {post : Int32 → Prop} {b : Nat} (hb16 : b < 16) (hin : qt_in (qt_rl T) (qt_ro T) b) (hp : post (qt_m (rd_mo (rd_g nu st b (qt_sp T b)) un b 5))) : wpY_bound post v (nI b) 1 := by
  obtain ⟨f_active, f_epoch, a_nodeUp, a_journalUp, a_masterUp, a_touch, a_log, a_many, a_promise, a_base, a_stamp, a_units, a_unit, a_sort, a_placeOf, a_client, a_rowLength, a_row, a_closedWith, a_stampOf⟩ := v
  refine ⟨6, lq_f (fun n d s => wY_bound_5 post (nI b) 1 f_active f_epoch a_nodeUp a_journalUp a_masterUp a_touch a_log a_many a_promise a_base a_stamp a_units a_unit a_sort a_placeOf a_client a_rowLength a_row a_closedWith a_stampOf n s (nI d)) 5 (fun d => qt_m (rd_mo (rd_g nu st b (qt_sp T b)) un b d)) (fun n => br_t lb_t hp) (fun n d hd H => ?_) 6 0 (by omega) (by omega)⟩
  have hc : 16 * d + b < 80 := by omega
  have hu := hb.2 (16 * d + b) hc
  have hw := rd_moB (f := rd_g nu st b (qt_sp T b)) hb16 hb.2 (n := d) (by omega)
  have H' : wY_bound_5 post (nI b) 1 f_active f_epoch a_nodeUp a_journalUp a_masterUp a_touch a_log a_many a_promise a_base a_stamp a_units a_unit a_sort a_placeOf a_client a_rowLength a_row a_closedWith a_stampOf n (qt_m (rd_mo (rd_g nu st b (qt_sp T b)) un b (d + 1))) (nI (d + 1)) := H
  rw [rd_moS] at H'
  have eu : a_units (nI (16 * d + b)).toNatClampNeg = nI (un (16 * d + b)) := by rw [nI_clamp (by omega)]; exact hD.2.2.1 _ hc
  refine br_f (lb_f hd) (ym_isGood (v := (f_active, f_epoch, a_nodeUp, a_journalUp, a_masterUp, a_touch, a_log, a_many, a_promise, a_base, a_stamp, a_units, a_unit, a_sort, a_placeOf, a_client, a_rowLength, a_row, a_closedWith, a_stampOf)) h hI hD hb hb16 hin hd (fun z => ?_) (fun z => ?_))
  · show vp_in (16 * nI d + nI b) 80 ∧ _
    rw [show 16 * nI d + nI b = nI (16 * d + b) from mu_l d 16 b]
    refine ⟨vp_in_nI hc (by decide), nm_r eu (br_f bo_1 (cd_if (qt_mZ (by omega)) (fun y => nm_r (nI_1 d) ?_) (fun y => br_f bo_1 (cd_if (qt_Nm (by omega) (by omega)) (fun x => nm_r (nI_1 d) ?_) (fun x => nm_r (nI_1 d) ?_)))))⟩
    · rw [if_pos ⟨z, by omega⟩, qt_ms] at H'; exact H'
    · rw [if_neg (fun w => by omega)] at H'; exact H'
    · rw [if_pos ⟨z, by omega⟩, qt_ms] at H'; exact H'
  · show vp_in (16 * nI d + nI b) 80 ∧ _
    rw [show 16 * nI d + nI b = nI (16 * d + b) from mu_l d 16 b]
    refine ⟨vp_in_nI hc (by decide), nm_r eu (br_t rfl (nm_r (nI_1 d) ?_))⟩
    rw [if_neg (fun w => by rw [z] at w; exact absurd w.1 (by decide))] at H'; exact H'
theorem ym_load {nu : Nat → Bool} {st un : Nat → Nat} {ua : Nat → Int32} {v : SY} (hD : sy_D (nu, st, un, ua) v) (hb : rd_bd (nu, st, un, ua)) {post : Int32 → Prop} {d : Nat} (hd : d < 5) (hp : post (nI (rd_ld st d 16))) : wpY_load post v (nI d) := by
  obtain ⟨f_active, f_epoch, a_nodeUp, a_journalUp, a_masterUp, a_touch, a_log, a_many, a_promise, a_base, a_stamp, a_units, a_unit, a_sort, a_placeOf, a_client, a_rowLength, a_row, a_closedWith, a_stampOf⟩ := v
  refine ⟨17, lq_f (fun n b s => wY_load_4 post (nI d) f_active f_epoch a_nodeUp a_journalUp a_masterUp a_touch a_log a_many a_promise a_base a_stamp a_units a_unit a_sort a_placeOf a_client a_rowLength a_row a_closedWith a_stampOf n s (nI b)) 16 (fun b => nI (rd_ld st d b)) (fun n => br_t lb_t hp) (fun n b hb' H => ?_) 17 0 (by omega) (by omega)⟩
  have hc : 16 * d + b < 80 := by omega
  have hs := hb.1 (16 * d + b) hc
  have H' : wY_load_4 post (nI d) f_active f_epoch a_nodeUp a_journalUp a_masterUp a_touch a_log a_many a_promise a_base a_stamp a_units a_unit a_sort a_placeOf a_client a_rowLength a_row a_closedWith a_stampOf n (nI (rd_ld st d (b + 1))) (nI (b + 1)) := H
  rw [rd_ldS] at H'
  have es : a_stamp (nI (16 * d + b)).toNatClampNeg = qt_m (st (16 * d + b)) := by rw [nI_clamp (by omega)]; exact hD.2.1 _ hc
  refine br_f (lb_f hb') ?_
  rw [show 16 * nI d + nI b = nI (16 * d + b) from mu_l d 16 b, es]
  refine ⟨vp_in_nI hc (by decide), cd_if (qt_mZ (by omega)) (fun z => nm_r (nI_1 b) ?_) (fun z => nm_r (nI_1 _) (nm_r (nI_1 b) ?_))⟩
  · rw [if_pos z] at H'; exact H'
  · rw [if_neg z] at H'; exact H'
theorem ym_idlest {nu : Nat → Bool} {st un : Nat → Nat} {ua : Nat → Int32} {v : SY} (hD : sy_D (nu, st, un, ua) v) (hb : rd_bd (nu, st, un, ua)) {post : Int32 → Prop} {f : Nat → Bool} (hp : post (qt_m (rd_il nu st f 5))) : wpY_idlest post v (nI (rd_mk f 5)) := by
  obtain ⟨f_active, f_epoch, a_nodeUp, a_journalUp, a_masterUp, a_touch, a_log, a_many, a_promise, a_base, a_stamp, a_units, a_unit, a_sort, a_placeOf, a_client, a_rowLength, a_row, a_closedWith, a_stampOf⟩ := v
  refine ⟨6, lq_f (fun n d s => wY_idlest_4 post (nI (rd_mk f 5)) f_active f_epoch a_nodeUp a_journalUp a_masterUp a_touch a_log a_many a_promise a_base a_stamp a_units a_unit a_sort a_placeOf a_client a_rowLength a_row a_closedWith a_stampOf n s (nI d)) 5 (fun d => qt_m (rd_il nu st f d)) (fun n => br_t lb_t hp) (fun n d hd H => ?_) 6 0 (by omega) (by omega)⟩
  have H' : wY_idlest_4 post (nI (rd_mk f 5)) f_active f_epoch a_nodeUp a_journalUp a_masterUp a_touch a_log a_many a_promise a_base a_stamp a_units a_unit a_sort a_placeOf a_client a_rowLength a_row a_closedWith a_stampOf n (qt_m (rd_il nu st f (d + 1))) (nI (d + 1)) := H
  rw [rd_ilS] at H'
  have hl := rd_ldB st d 16
  have hil : rd_il nu st f d ≤ d := by
    rcases rd_ilP (nu := nu) (st := st) (ok := f) (n := d) with z | z <;> omega
  refine br_f (lb_f hd) (cd_if (rd_b0 f hd) (fun z => nm_r (nI_1 d) ?_) (fun z => ⟨vp_in_nI hd (by decide), cd_if (cd_p (hD.1 d hd) (by omega)) (fun hu => nm_r (nI_1 d) ?_) (fun hu => ?_)⟩))
  · rw [if_neg (fun w => by rw [z] at w; exact absurd w.1 (by decide))] at H'; exact H'
  · rw [if_neg (fun w => by rw [hu] at w; exact absurd w.2.1 (by decide))] at H'; exact H'
  · have z' : f d = true := by simpa using z
    have hu' : nu d = true := by simpa using hu
    refine cd_if (qt_mZ (by omega)) (fun y => br_f bo_1 (nm_r (nI_1 d) ?_)) (fun y => ym_load (v := (f_active, f_epoch, a_nodeUp, a_journalUp, a_masterUp, a_touch, a_log, a_many, a_promise, a_base, a_stamp, a_units, a_unit, a_sort, a_placeOf, a_client, a_rowLength, a_row, a_closedWith, a_stampOf)) hD hb hd ?_)
    · rw [if_pos ⟨z', hu', Or.inl y⟩, qt_ms] at H'; exact H'
    · obtain ⟨i, hi⟩ : ∃ i, rd_il nu st f d = i + 1 := ⟨rd_il nu st f d - 1, by omega⟩
      rw [hi] at H' hil
      have hl2 := rd_ldB st i 16
      show wpY_load _ (f_active, f_epoch, a_nodeUp, a_journalUp, a_masterUp, a_touch, a_log, a_many, a_promise, a_base, a_stamp, a_units, a_unit, a_sort, a_placeOf, a_client, a_rowLength, a_row, a_closedWith, a_stampOf) (qt_m (rd_il nu st f d))
      rw [hi, qt_ms]
      refine ym_load (v := (f_active, f_epoch, a_nodeUp, a_journalUp, a_masterUp, a_touch, a_log, a_many, a_promise, a_base, a_stamp, a_units, a_unit, a_sort, a_placeOf, a_client, a_rowLength, a_row, a_closedWith, a_stampOf)) hD hb (by omega) (cd_if (nI_leI (by omega) (by omega)) (fun x => br_t rfl (nm_r (nI_1 d) ?_)) (fun x => br_f bo_1 (nm_r (nI_1 d) ?_)))
      · rw [if_neg (fun w => by rcases w.2.2 with v | v <;> simp at v <;> omega), qt_ms] at H'; exact H'
      · rw [if_pos ⟨z', hu', Or.inr (by simp; omega)⟩, qt_ms] at H'; exact H'
end
section
/-! records: the component -/
theorem qt_ag0 {F : Prop} {aS aP aC aW aL aR aT : Nat → Int32} (h12 : ∀ j, j < 12 → aS j = 0 ∧ aP j = -1 ∧ aC j = -1 ∧ aW j = 0 ∧ aL j = 0) (hT : ∀ j, j < 16 → aT j = 0) : qt_ag F qt_t0 (upd aS 0 1) aP aC aW aL aR aT := by
  refine ⟨?_, ?_, ?_, ?_, ?_, ?_, ?_⟩
  · intro i hi
    by_cases z : i = 0
    · subst z; rw [pk_us, qt_us]; rfl
    · rw [pk_un z, (h12 i hi).1, qt_un z]; rfl
  · intro i hi
    rw [(h12 i hi).2.1]; exact qt_m0.symm
  · intro i hi _
    rw [(h12 i hi).2.2.1]; exact qt_m0.symm
  · intro i hi _
    rw [(h12 i hi).2.2.2.1]; rfl
  · intro i hi
    rw [(h12 i hi).2.2.2.2]; rfl
  · intro i k hi hk
    exact absurd hk (Nat.not_lt_zero _)
  · intro b hb _
    rw [hT b hb]; rfl
theorem xm_forget {L : lj_L} {D : rd_D} {u : SX} (hL : sx_L L u) (hD : sx_D D u) {post : SX → Prop} (hp : ∀ u', sx_T qt_t0 u' → sx_L L u' → sx_D D u' → post u') : wpX_forgetInodes post u := by
  obtain ⟨mu, ju, ac, ep, to, pr, ba, le, lg⟩ := L
  obtain ⟨nu, st, un, ua⟩ := D
  obtain ⟨f_active, f_epoch, a_dataNodeDown, a_journalDown, a_masterDown, a_inTouch, a_promise, a_base, a_logLength, a_logEpoch, a_logKind, a_logA, a_logB, a_logC, a_inodeState, a_inodePlace, a_inodeClient, a_closeUnits, a_rowLength, a_rowBlock, a_blockStamp, a_replicaHeld, a_replicaStamp, a_unitCount, a_unitValue⟩ := u
  obtain ⟨l1, l2, l3, l4, l5, l6, l7, l8, l9⟩ := hL
  obtain ⟨d1, d2, d3, d4, d5⟩ := hD
  have p2 : ∀ aS aP aC aW aL : Nat → Int32, (∀ j, j < 12 → aS j = 0 ∧ aP j = -1 ∧ aC j = -1 ∧ aW j = 0 ∧ aL j = 0) → ∀ k n i, i + k = 16 → k < n → ∀ aT : Nat → Int32, (∀ j, j < i → aT j = 0) → wX_forgetInodes_51 post f_active f_epoch n (nI i) a_dataNodeDown a_journalDown a_masterDown a_inTouch a_promise a_base a_logLength a_logEpoch a_logKind a_logA a_logB a_logC aS aP aC aW aL a_rowBlock aT a_replicaHeld a_replicaStamp a_unitCount a_unitValue := by
    intro aS aP aC aW aL h12 k
    induction k with
    | zero =>
      intro n i hi hn aT hT
      obtain ⟨n, rfl⟩ : ∃ n', n = n' + 1 := ⟨n - 1, by omega⟩
      have e : i = 16 := by omega
      subst e
      refine br_t lb_t (nm_e (hp _ (qt_ag0 h12 hT) ⟨l1, l2, l3, l4, l5, l6, l7, l8, l9⟩ ⟨d1, d2, d3, d4, d5⟩))
    | succ k ih =>
      intro n i hi hn aT hT
      obtain ⟨n, rfl⟩ : ∃ n', n = n' + 1 := ⟨n - 1, by omega⟩
      have hi' : i < 16 := by omega
      refine br_f (lb_f hi') ⟨vp_in_nI hi' (by decide), nm_e (nm_r (nI_1 i) (ih n (i + 1) (by omega) (by omega) _ (fun j hj => ?_)))⟩
      rw [nI_clamp (by omega)]
      by_cases z : j = i
      · subst z; exact pk_us
      · rw [pk_un z]; exact hT j (by omega)
  have p1 : ∀ k n i, i + k = 12 → k < n → ∀ aS aP aC aW aL : Nat → Int32, (∀ j, j < i → aS j = 0 ∧ aP j = -1 ∧ aC j = -1 ∧ aW j = 0 ∧ aL j = 0) → wX_forgetInodes_2 post f_active f_epoch n (nI i) a_dataNodeDown a_journalDown a_masterDown a_inTouch a_promise a_base a_logLength a_logEpoch a_logKind a_logA a_logB a_logC aS aP aC aW aL a_rowBlock a_blockStamp a_replicaHeld a_replicaStamp a_unitCount a_unitValue := by
    intro k
    induction k with
    | zero =>
      intro n i hi hn aS aP aC aW aL H
      obtain ⟨n, rfl⟩ : ∃ n', n = n' + 1 := ⟨n - 1, by omega⟩
      have e : i = 12 := by omega
      subst e
      exact br_t lb_t ⟨17, p2 aS aP aC aW aL H 16 17 0 (by omega) (by omega) _ (fun j hj => by omega)⟩
    | succ k ih =>
      intro n i hi hn aS aP aC aW aL H
      obtain ⟨n, rfl⟩ : ∃ n', n = n' + 1 := ⟨n - 1, by omega⟩
      have hi' : i < 12 := by omega
      have hv := vp_in_nI hi' (by decide : 12 < 2 ^ 31)
      refine br_f (lb_f hi') ⟨hv, nm_e ⟨hv, nm_e ⟨hv, nm_e ⟨hv, nm_e ⟨hv, nm_e (nm_r (nI_1 i) (ih n (i + 1) (by omega) (by omega) _ _ _ _ _ (fun j hj => ?_)))⟩⟩⟩⟩⟩
      rw [nI_clamp (by omega)]
      by_cases z : j = i
      · subst z; exact ⟨pk_us, pk_us, pk_us, pk_us, pk_us⟩
      · rw [pk_un z, pk_un z, pk_un z, pk_un z, pk_un z]; exact H j (by omega)
  exact ⟨13, p1 12 13 0 (by omega) (by omega) _ _ _ _ _ (fun j hj => by omega)⟩
section
variable {T : qt_T} {mu ju : Nat → Bool} {ac ep : Nat} {to : Nat → Bool} {pr ba le : Nat → Nat} {lg : Nat → Nat → qt_R} {nu : Nat → Bool} {st un : Nat → Nat} {ua : Nat → Int32}
theorem xm_applyRecord {u : SX} (h : sx_T T u) (hI : qt_iv T) (hL : sx_L (mu, ju, ac, ep, to, pr, ba, le, lg) u) (hD : sx_D (nu, st, un, ua) u) {post : SX → Prop} {j k : Nat} (hj : j < 3) (hk : k < le j) (hk2 : k < 1000) (ho : qt_ok T (lg j k)) (hp : ∀ u', sx_T (qt_ap T (lg j k) k) u' → sx_L (mu, ju, ac, ep, to, pr, ba, le, lg) u' → sx_D (nu, st, un, ua) u' → post u') : wpX_applyRecord post u (nI j) (nI k) := by
  obtain ⟨f_active, f_epoch, a_dataNodeDown, a_journalDown, a_masterDown, a_inTouch, a_promise, a_base, a_logLength, a_logEpoch, a_logKind, a_logA, a_logB, a_logC, a_inodeState, a_inodePlace, a_inodeClient, a_closeUnits, a_rowLength, a_rowBlock, a_blockStamp, a_replicaHeld, a_replicaStamp, a_unitCount, a_unitValue⟩ := u
  obtain ⟨so, pl, cl, cw, rl, ro, sp⟩ := T
  obtain ⟨l1, l2, l3, l4, l5, l6, l7, l8, l9⟩ := hL
  obtain ⟨d1, d2, d3, d4, d5⟩ := hD
  obtain ⟨c1, c2, c3, c4, c5⟩ := l9 j k hj hk
  have hB := qt_okB ho
  generalize lg j k = r at c1 c2 c3 c4 c5 ho hp hB
  obtain ⟨e, q, a, b, c⟩ := r
  obtain ⟨hB1, hB2, hB3, hB4, hB5⟩ := hB
  dsimp only at c1 c2 c3 c4 c5 hB1 hB2 hB3 hB4 hB5
  have hcell : 1000 * j + k < 3000 := by omega
  have hv := vp_in_nI hcell (by decide : 3000 < 2 ^ 31)
  have hcl : (nI (1000 * j + k)).toNatClampNeg = 1000 * j + k := nI_clamp (by omega)
  have h3 := qt_iv3 hI
  have h4 := qt_iv4 hI
  dsimp only [qt_so, qt_rl] at h3 h4
  refine nm_r (mu_r j 1000 k) ?_
  rw [hcl, c1, c2, c3, c4, c5]
  refine ⟨hv, nm_e ⟨hv, nm_e ⟨hv, nm_r (mu_l e 2048 k) ⟨hv, nm_e ?_⟩⟩⟩⟩
  obtain ⟨_, ho⟩ := ho
  rcases ho with ⟨rfl, g1, g2, g3, g4, g5, g6⟩ | ⟨rfl, g1, g2, g3, g4, g5⟩ | ⟨rfl, g1, g2, g3⟩ | ⟨rfl, g1, g2, g3, g4⟩ | ⟨rfl, g1, g2, g3, g4, g5⟩ | ⟨rfl, g1, g2, g3, g4, g5, g6, g7⟩
  · have hva := vp_in_nI g2 (by decide : 12 < 2 ^ 31)
    have hca : (nI a).toNatClampNeg = a := nI_clamp (by omega)
    refine br_f (by decide) (br_f (by decide) (br_t rfl ⟨hv, ?_⟩))
    refine cd_if (qt_m0E (by omega)) (fun z => ?_) (fun z => ?_)
    · refine ⟨hva, nm_e ⟨hva, nm_e ⟨hva, nm_e ⟨hva, nm_e ⟨hva, nm_e ?_⟩⟩⟩⟩⟩
      rw [hca]
      exact hp _ (qt_agMake (e := e) (k := k) h (by rw [if_pos z]; rfl) rfl rfl (fun i hi => pk_un hi)) ⟨l1, l2, l3, l4, l5, l6, l7, l8, l9⟩ ⟨d1, d2, d3, d4, d5⟩
    · refine ⟨hva, nm_e ⟨hva, nm_e ⟨hva, nm_e ⟨hva, nm_e ⟨hva, nm_e ?_⟩⟩⟩⟩⟩
      rw [hca]
      exact hp _ (qt_agMake (e := e) (k := k) h (by rw [if_neg z]; rfl) rfl rfl (fun i hi => pk_un hi)) ⟨l1, l2, l3, l4, l5, l6, l7, l8, l9⟩ ⟨d1, d2, d3, d4, d5⟩
  · have hva := vp_in_nI g1 (by decide : 12 < 2 ^ 31)
    have hca : (nI a).toNatClampNeg = a := nI_clamp (by omega)
    have hcb : (nI b).toNatClampNeg = b := nI_clamp (by omega)
    have hr : a_rowLength a = nI (rl a) := h.2.2.2.2.1 a g1
    have hix : nI a * 3 + nI (rl a) = nI (3 * a + rl a) := mu_r a 3 (rl a)
    refine br_f (by decide) (br_f (by decide) (br_f (by decide) (br_t rfl ?_)))
    refine ⟨hva, ?_⟩
    rw [hca, hr, hix, hcb, nI_1, show (nI (3 * a + rl a)).toNatClampNeg = 3 * a + rl a from nI_clamp (by omega)]
    exact br_f (lb_f g3) ⟨hva, vp_in_nI (by omega) (by decide), nm_e ⟨hva, hva, nm_e ⟨vp_in_nI g4 (by decide), nm_e (hp _ (qt_agBlock (e := e) (c := c) (k := k) h rfl rfl rfl h4 g3) ⟨l1, l2, l3, l4, l5, l6, l7, l8, l9⟩ ⟨d1, d2, d3, d4, d5⟩)⟩⟩⟩
  · have hca : (nI a).toNatClampNeg = a := nI_clamp (by omega)
    refine br_f (by decide) (br_f (by decide) (br_f (by decide) (br_f (by decide) (br_t rfl ⟨vp_in_nI g1 (by decide), nm_e ?_⟩))))
    rw [hca]
    exact hp _ (qt_agStamp (e := e) (b := b) (c := c) (k := k) h rfl) ⟨l1, l2, l3, l4, l5, l6, l7, l8, l9⟩ ⟨d1, d2, d3, d4, d5⟩
  · have hva := vp_in_nI g1 (by decide : 12 < 2 ^ 31)
    have hca : (nI a).toNatClampNeg = a := nI_clamp (by omega)
    have hr : a_rowLength a = nI (rl a) := h.2.2.2.2.1 a g1
    have hra := h4 a g1
    refine br_f (by decide) (br_f (by decide) (br_f (by decide) (br_f (by decide) (br_f (by decide) (br_t rfl ?_)))))
    refine ⟨hva, nm_e ⟨hva, nm_e ?_⟩⟩
    rw [hca, hr]
    refine cd_if (nI_eq (b := 0) (by omega) (by decide)) (fun z => ⟨hva, cd_if (nI_leI (b := 0) (by omega) (by decide)) (fun y => hp _ (qt_agClose (e := e) (c := c) (k := k) h rfl (fun i hi => ?_)) ⟨l1, l2, l3, l4, l5, l6, l7, l8, l9⟩ ⟨d1, d2, d3, d4, d5⟩) (fun y => ⟨hva, hva, nm_e (hp _ (qt_agClose (e := e) (c := c) (k := k) h rfl (fun i hi => ?_)) ⟨l1, l2, l3, l4, l5, l6, l7, l8, l9⟩ ⟨d1, d2, d3, d4, d5⟩)⟩)⟩) (fun z => hp _ (qt_agClose (e := e) (c := c) (k := k) h rfl (fun i hi => ?_)) ⟨l1, l2, l3, l4, l5, l6, l7, l8, l9⟩ ⟨d1, d2, d3, d4, d5⟩)
    · rw [if_pos z]
      by_cases w : i = a
      · subst w; rw [qt_us, hr]; congr 1; omega
      · rw [qt_un w]; exact h.2.2.2.2.1 i hi
    · rw [if_pos z]
      by_cases w : i = a
      · subst w
        rw [pk_us, qt_us]
        obtain ⟨x, hx⟩ : ∃ x, rl i = x + 1 := ⟨rl i - 1, by omega⟩
        rw [hx, nI_pred]; rfl
      · rw [pk_un w, qt_un w]; exact h.2.2.2.2.1 i hi
    · rw [if_neg z]; exact h.2.2.2.2.1 i hi
  · have hva := vp_in_nI g2 (by decide : 12 < 2 ^ 31)
    have hca : (nI a).toNatClampNeg = a := nI_clamp (by omega)
    refine br_f (by decide) (br_f (by decide) (br_f (by decide) (br_f (by decide) (br_f (by decide) (br_f (by decide) (br_t rfl ?_))))))
    refine ⟨hva, nm_e ⟨hva, nm_e ?_⟩⟩
    rw [hca]
    exact hp _ (qt_agRemove (e := e) (b := b) (c := c) (k := k) h) ⟨l1, l2, l3, l4, l5, l6, l7, l8, l9⟩ ⟨d1, d2, d3, d4, d5⟩
  · have hva := vp_in_nI g2 (by decide : 12 < 2 ^ 31)
    have hca : (nI a).toNatClampNeg = a := nI_clamp (by omega)
    refine br_f (by decide) (br_f (by decide) (br_f (by decide) (br_f (by decide) (br_f (by decide) (br_f (by decide) (br_f (by decide) (br_t rfl ⟨hva, nm_e ?_⟩)))))))
    rw [hca]
    exact hp _ (qt_agMove (e := e) (c := c) (k := k) h rfl) ⟨l1, l2, l3, l4, l5, l6, l7, l8, l9⟩ ⟨d1, d2, d3, d4, d5⟩
theorem xm_replayLog {u : SX} (hL : sx_L (mu, ju, ac, ep, to, pr, ba, le, lg) u) (hD : sx_D (nu, st, un, ua) u) {post : SX → Prop} {j : Nat} (hj : j < 3) (hl : le j ≤ 1000) (hw : qt_wf (lg j) (le j)) (hp : ∀ u', sx_T (qt_ab (lg j) (le j)) u' → sx_L (mu, ju, ac, ep, to, pr, ba, le, lg) u' → sx_D (nu, st, un, ua) u' → post u') : wpX_replayLog post u (nI j) := by
  obtain ⟨f_active, f_epoch, a_dataNodeDown, a_journalDown, a_masterDown, a_inTouch, a_promise, a_base, a_logLength, a_logEpoch, a_logKind, a_logA, a_logB, a_logC, a_inodeState, a_inodePlace, a_inodeClient, a_closeUnits, a_rowLength, a_rowBlock, a_blockStamp, a_replicaHeld, a_replicaStamp, a_unitCount, a_unitValue⟩ := u
  unfold wpX_replayLog
  refine xm_forget (u := (f_active, f_epoch, a_dataNodeDown, a_journalDown, a_masterDown, a_inTouch, a_promise, a_base, a_logLength, a_logEpoch, a_logKind, a_logA, a_logB, a_logC, a_inodeState, a_inodePlace, a_inodeClient, a_closeUnits, a_rowLength, a_rowBlock, a_blockStamp, a_replicaHeld, a_replicaStamp, a_unitCount, a_unitValue)) hL hD ?_
  rintro ⟨f_active, f_epoch, a_dataNodeDown, a_journalDown, a_masterDown, a_inTouch, a_promise, a_base, a_logLength, a_logEpoch, a_logKind, a_logA, a_logB, a_logC, a_inodeState, a_inodePlace, a_inodeClient, a_closeUnits, a_rowLength, a_rowBlock, a_blockStamp, a_replicaHeld, a_replicaStamp, a_unitCount, a_unitValue⟩ hT hL hD
  have key : ∀ m n k, k + m = le j → m < n → ∀ f_active f_epoch a_dataNodeDown a_journalDown a_masterDown a_inTouch a_promise a_base a_logLength a_logEpoch a_logKind a_logA a_logB a_logC a_inodeState a_inodePlace a_inodeClient a_closeUnits a_rowLength a_rowBlock a_blockStamp a_replicaHeld a_replicaStamp a_unitCount a_unitValue, sx_T (qt_ab (lg j) k) (f_active, f_epoch, a_dataNodeDown, a_journalDown, a_masterDown, a_inTouch, a_promise, a_base, a_logLength, a_logEpoch, a_logKind, a_logA, a_logB, a_logC, a_inodeState, a_inodePlace, a_inodeClient, a_closeUnits, a_rowLength, a_rowBlock, a_blockStamp, a_replicaHeld, a_replicaStamp, a_unitCount, a_unitValue) → sx_L (mu, ju, ac, ep, to, pr, ba, le, lg) (f_active, f_epoch, a_dataNodeDown, a_journalDown, a_masterDown, a_inTouch, a_promise, a_base, a_logLength, a_logEpoch, a_logKind, a_logA, a_logB, a_logC, a_inodeState, a_inodePlace, a_inodeClient, a_closeUnits, a_rowLength, a_rowBlock, a_blockStamp, a_replicaHeld, a_replicaStamp, a_unitCount, a_unitValue) → sx_D (nu, st, un, ua) (f_active, f_epoch, a_dataNodeDown, a_journalDown, a_masterDown, a_inTouch, a_promise, a_base, a_logLength, a_logEpoch, a_logKind, a_logA, a_logB, a_logC, a_inodeState, a_inodePlace, a_inodeClient, a_closeUnits, a_rowLength, a_rowBlock, a_blockStamp, a_replicaHeld, a_replicaStamp, a_unitCount, a_unitValue) → wX_replayLog_13 post (nI j) (nI (le j)) n (nI k) f_active f_epoch a_dataNodeDown a_journalDown a_masterDown a_inTouch a_promise a_base a_logLength a_logEpoch a_logKind a_logA a_logB a_logC a_inodeState a_inodePlace a_inodeClient a_closeUnits a_rowLength a_rowBlock a_blockStamp a_replicaHeld a_replicaStamp a_unitCount a_unitValue := by
    intro m
    induction m with
    | zero =>
      intro n k hk hn f_active f_epoch a_dataNodeDown a_journalDown a_masterDown a_inTouch a_promise a_base a_logLength a_logEpoch a_logKind a_logA a_logB a_logC a_inodeState a_inodePlace a_inodeClient a_closeUnits a_rowLength a_rowBlock a_blockStamp a_replicaHeld a_replicaStamp a_unitCount a_unitValue hT hL hD
      obtain ⟨n, rfl⟩ : ∃ n', n = n' + 1 := ⟨n - 1, by omega⟩
      have e : k = le j := by omega
      subst e
      exact br_t lb_t (hp _ hT hL hD)
    | succ m ih =>
      intro n k hk hn f_active f_epoch a_dataNodeDown a_journalDown a_masterDown a_inTouch a_promise a_base a_logLength a_logEpoch a_logKind a_logA a_logB a_logC a_inodeState a_inodePlace a_inodeClient a_closeUnits a_rowLength a_rowBlock a_blockStamp a_replicaHeld a_replicaStamp a_unitCount a_unitValue hT hL hD
      obtain ⟨n, rfl⟩ : ∃ n', n = n' + 1 := ⟨n - 1, by omega⟩
      refine br_f (lb_f (by omega) (by omega)) (xm_applyRecord (u := (f_active, f_epoch, a_dataNodeDown, a_journalDown, a_masterDown, a_inTouch, a_promise, a_base, a_logLength, a_logEpoch, a_logKind, a_logA, a_logB, a_logC, a_inodeState, a_inodePlace, a_inodeClient, a_closeUnits, a_rowLength, a_rowBlock, a_blockStamp, a_replicaHeld, a_replicaStamp, a_unitCount, a_unitValue)) hT (qt_ivAb (fun i hi => hw i (by omega)) (by omega)) hL hD hj (by omega) (by omega) (hw k (by omega)) ?_)
      rintro ⟨f_active, f_epoch, a_dataNodeDown, a_journalDown, a_masterDown, a_inTouch, a_promise, a_base, a_logLength, a_logEpoch, a_logKind, a_logA, a_logB, a_logC, a_inodeState, a_inodePlace, a_inodeClient, a_closeUnits, a_rowLength, a_rowBlock, a_blockStamp, a_replicaHeld, a_replicaStamp, a_unitCount, a_unitValue⟩ hT hL hD
      exact nm_r (nI_1 k) (ih n (k + 1) (by omega) (by omega) _ _ _ _ _ _ _ _ _ _ _ _ _ _ _ _ _ _ _ _ _ _ _ _ _ hT hL hD)
  exact ⟨vp_in_nI hj (by decide), nm_r (e' := nI (le j)) (by rw [nI_clamp (by omega)]; exact hL.2.2.2.2.2.2.2.1 j hj) ⟨le j + 1, key (le j) (le j + 1) 0 (by omega) (by omega) _ _ _ _ _ _ _ _ _ _ _ _ _ _ _ _ _ _ _ _ _ _ _ _ _ hT hL hD⟩⟩
end
end
section
/-! writing records: the component -/
section
variable {T : qt_T} {mu ju : Nat → Bool} {ac ep : Nat} {to : Nat → Bool} {pr ba le : Nat → Nat} {lg : Nat → Nat → qt_R} {nu : Nat → Bool} {st un : Nat → Nat} {ua : Nat → Int32}
theorem xm_logsLackRoom {u : SX} (hL : sx_L (mu, ju, ac, ep, to, pr, ba, le, lg) u) (hl : ∀ j, j < 3 → ba j ≤ le j ∧ le j ≤ 1000) {post : Int32 → Prop} {R : Nat} (hR : R ≤ 2) (h1 : ¬ lj_rm (mu, ju, ac, ep, to, pr, ba, le, lg) R → post 1) (h0 : lj_rm (mu, ju, ac, ep, to, pr, ba, le, lg) R → post 0) : wpX_logsLackRoom post u (nI R) := by
  obtain ⟨f_active, f_epoch, a_dataNodeDown, a_journalDown, a_masterDown, a_inTouch, a_promise, a_base, a_logLength, a_logEpoch, a_logKind, a_logA, a_logB, a_logC, a_inodeState, a_inodePlace, a_inodeClient, a_closeUnits, a_rowLength, a_rowBlock, a_blockStamp, a_replicaHeld, a_replicaStamp, a_unitCount, a_unitValue⟩ := u
  obtain ⟨l1, l2, l3, l4, l5, l6, l7, l8, l9⟩ := hL
  have key : ∀ k n j, j + k = 3 → k < n → (∀ i, i < j → to i = true → (ju i = true → le i + R ≤ ba i + 40) ∧ le i + R ≤ 1000) → wX_logsLackRoom_2 post (nI R) f_active f_epoch a_dataNodeDown a_journalDown a_masterDown a_inTouch a_promise a_base a_logLength a_logEpoch a_logKind a_logA a_logB a_logC a_inodeState a_inodePlace a_inodeClient a_closeUnits a_rowLength a_rowBlock a_blockStamp a_replicaHeld a_replicaStamp a_unitCount a_unitValue n (nI j) := by
    intro k
    induction k with
    | zero =>
      intro n j hj hn H
      obtain ⟨n, rfl⟩ : ∃ n', n = n' + 1 := ⟨n - 1, by omega⟩
      have e : j = 3 := by omega
      subst e
      exact br_t lb_t (h0 H)
    | succ k ih =>
      intro n j hj hn H
      obtain ⟨n, rfl⟩ : ∃ n', n = n' + 1 := ⟨n - 1, by omega⟩
      have hj3 : j < 3 := by omega
      obtain ⟨b1, b2⟩ := hl j hj3
      have hv := vp_in_nI hj3 (by decide : 3 < 2 ^ 31)
      have hc : (nI j).toNatClampNeg = j := nI_clamp (by omega)
      have bad : ¬ (to j = true → (ju j = true → le j + R ≤ ba j + 40) ∧ le j + R ≤ 1000) → post 1 := fun z => h1 (fun y => z (y j hj3))
      have go : (to j = true → (ju j = true → le j + R ≤ ba j + 40) ∧ le j + R ≤ 1000) → wX_logsLackRoom_2 post (nI R) f_active f_epoch a_dataNodeDown a_journalDown a_masterDown a_inTouch a_promise a_base a_logLength a_logEpoch a_logKind a_logA a_logB a_logC a_inodeState a_inodePlace a_inodeClient a_closeUnits a_rowLength a_rowBlock a_blockStamp a_replicaHeld a_replicaStamp a_unitCount a_unitValue n (nI (j + 1)) := by
        intro z
        refine ih n (j + 1) (by omega) (by omega) (fun i hi => ?_)
        by_cases e : i = j
        · subst e; exact z
        · exact H i (by omega)
      have esub : nI (le j + R) - a_base (nI j).toNatClampNeg = nI (le j + R - ba j) := by rw [hc, l7 j hj3]; exact pk_sub (by omega)
      have s34 : le j + R ≤ 1000 ∨ to j = false → wX_logsLackRoom_34 post (wX_logsLackRoom_2 post (nI R) f_active f_epoch a_dataNodeDown a_journalDown a_masterDown a_inTouch a_promise a_base a_logLength a_logEpoch a_logKind a_logA a_logB a_logC a_inodeState a_inodePlace a_inodeClient a_closeUnits a_rowLength a_rowBlock a_blockStamp a_replicaHeld a_replicaStamp a_unitCount a_unitValue n) (nI R) (nI j) (nI (le j + R)) f_active f_epoch a_dataNodeDown a_journalDown a_masterDown a_inTouch a_promise a_base a_logLength a_logEpoch a_logKind a_logA a_logB a_logC a_inodeState a_inodePlace a_inodeClient a_closeUnits a_rowLength a_rowBlock a_blockStamp a_replicaHeld a_replicaStamp a_unitCount a_unitValue := by
        intro hx
        refine ⟨hv, cd_if (cd_p (l5 j hj3) (by omega)) (fun z => nm_r (nI_1 j) (go (fun y => by rw [z] at y; exact absurd y (by decide)))) (fun z => ⟨hv, cd_if (cd_n (l3 j hj3) (by omega)) (fun hu => ⟨hv, ?_⟩) (fun hu => nm_r (nI_1 j) (go (fun y => ⟨fun x => absurd x hu, by rcases hx with w | w; exact w; rw [w] at y; exact absurd y (by decide)⟩)))⟩)⟩
        rw [esub]
        have z' : to j = true := by simpa using z
        have hx' : le j + R ≤ 1000 := by rcases hx with w | w; exact w; rw [w] at z'; exact absurd z' (by decide)
        exact cd_if (nI_leI (b := 40) (by omega) (by decide)) (fun y => nm_r (nI_1 j) (go (fun _ => ⟨fun _ => by omega, hx'⟩))) (fun y => bad (fun w => by have := (w z').1 hu; omega))
      refine br_f (lb_f hj3) ⟨hv, nm_r (e' := nI (le j + R)) (by rw [hc, l8 j hj3, nI_add]) ⟨hv, cd_if (cd_p (l5 j hj3) (by omega)) (fun z => s34 (Or.inr z)) (fun z => cd_if (nI_leI (b := 1000) (by omega) (by decide)) (fun y => s34 (Or.inl y)) (fun y => bad (fun w => ?_)))⟩⟩
      have := (w (by simpa using z)).2
      omega
  exact ⟨4, key 3 4 0 (by omega) (by omega) (fun i hi => by omega)⟩
theorem xm_sharedLength {u : SX} (hL : sx_L (mu, ju, ac, ep, to, pr, ba, le, lg) u) (h2 : lj_two to) {post : Int32 → Prop} (hp : post (nI (le (lj_src to)))) : wpX_sharedLength post u := by
  obtain ⟨f_active, f_epoch, a_dataNodeDown, a_journalDown, a_masterDown, a_inTouch, a_promise, a_base, a_logLength, a_logEpoch, a_logKind, a_logA, a_logB, a_logC, a_inodeState, a_inodePlace, a_inodeClient, a_closeUnits, a_rowLength, a_rowBlock, a_blockStamp, a_replicaHeld, a_replicaStamp, a_unitCount, a_unitValue⟩ := u
  obtain ⟨l1, l2, l3, l4, l5, l6, l7, l8, l9⟩ := hL
  have l8' : ∀ j, j < 3 → a_logLength (nI j).toNatClampNeg = nI (le j) := fun j hj => by rw [nI_clamp (by omega)]; exact l8 j hj
  have l5' : ∀ j, j < 3 → (a_inTouch (nI j).toNatClampNeg = 0 ↔ to j = false) := fun j hj => cd_p (l5 j hj) (by omega)
  have nf : ∀ {x : Bool}, ¬ x = false → x = true := fun {x} h => by cases x <;> simp_all
  refine ⟨4, br_f (lb_f (d := 0) (N := 3) (by decide)) ⟨vp_in_nI (n := 0) (by decide) (by decide), cd_if (l5' 0 (by decide)) (fun z0 => nm_r (nI_1 0) (br_f (lb_f (d := 1) (N := 3) (by decide)) ⟨vp_in_nI (n := 1) (by decide) (by decide), cd_if (l5' 1 (by decide)) (fun z1 => nm_r (nI_1 1) (br_f (lb_f (d := 2) (N := 3) (by decide)) ⟨vp_in_nI (n := 2) (by decide) (by decide), br_f ?_ ⟨vp_in_nI (n := 2) (by decide) (by decide), ?_⟩⟩)) (fun z1 => ⟨vp_in_nI (n := 1) (by decide) (by decide), ?_⟩)⟩)) (fun z0 => ⟨vp_in_nI (n := 0) (by decide) (by decide), ?_⟩)⟩⟩
  · rw [l5' 2 (by decide)]
    intro z2
    rcases h2 0 1 (by decide) (by decide) with w | w
    · rw [w] at z0; exact absurd z0 (by decide)
    · rw [w] at z1; exact absurd z1 (by decide)
  · have e : lj_src to = 2 := by unfold lj_src; rw [z0, z1]; rfl
    rw [l8' 2 (by decide)]; rw [e] at hp; exact hp
  · have e : lj_src to = 1 := by unfold lj_src; rw [z0, nf z1]; rfl
    rw [l8' 1 (by decide)]; rw [e] at hp; exact hp
  · have e : lj_src to = 0 := by unfold lj_src; rw [nf z0]; rfl
    show post (a_logLength (nI 0).toNatClampNeg)
    rw [l8' 0 (by decide)]; rw [e] at hp; exact hp
theorem xm_nextStamp {u : SX} (hL : sx_L (mu, ju, ac, ep, to, pr, ba, le, lg) u) (h2 : lj_two to) {post : Int32 → Prop} (hp : post (nI (2048 * ep + le (lj_src to)))) : wpX_nextStamp post u := by
  obtain ⟨f_active, f_epoch, a_dataNodeDown, a_journalDown, a_masterDown, a_inTouch, a_promise, a_base, a_logLength, a_logEpoch, a_logKind, a_logA, a_logB, a_logC, a_inodeState, a_inodePlace, a_inodeClient, a_closeUnits, a_rowLength, a_rowBlock, a_blockStamp, a_replicaHeld, a_replicaStamp, a_unitCount, a_unitValue⟩ := u
  unfold wpX_nextStamp
  refine xm_sharedLength (u := (f_active, f_epoch, a_dataNodeDown, a_journalDown, a_masterDown, a_inTouch, a_promise, a_base, a_logLength, a_logEpoch, a_logKind, a_logA, a_logB, a_logC, a_inodeState, a_inodePlace, a_inodeClient, a_closeUnits, a_rowLength, a_rowBlock, a_blockStamp, a_replicaHeld, a_replicaStamp, a_unitCount, a_unitValue)) hL h2 ?_
  have e : f_epoch = nI ep := hL.2.1
  rw [e]
  rw [← mu_l] at hp
  exact hp
/-- journals below n have been asked -/
def lj_n (n : Nat) (to ju : Nat → Bool) (j : Nat) : Bool := decide (j < n) && (to j && ju j)
theorem lj_nS {n : Nat} {to ju : Nat → Bool} {j : Nat} (h : j ≠ n) : lj_n (n + 1) to ju j = lj_n n to ju j := by
  unfold lj_n
  congr 1
  exact decide_eq_decide.mpr (by omega)
def lj_wI (n : Nat) (to ju : Nat → Bool) (le : Nat → Nat) (lg : Nat → Nat → qt_R) (r : qt_R) (aI aN aE aK aA aB aC : Nat → Int32) : Prop :=
  (∀ j, j < 3 → aI j = bo_p (if j < n then to j && ju j else to j)) ∧ (∀ j, j < 3 → aN j = nI (if lj_n n to ju j = true then le j + 1 else le j))
    ∧ (∀ j k, j < 3 → k < (if lj_n n to ju j = true then le j + 1 else le j) → lj_ce (if lj_n n to ju j = true ∧ k = le j then r else lg j k) (aE (1000 * j + k)) (aK (1000 * j + k)) (aA (1000 * j + k)) (aB (1000 * j + k)) (aC (1000 * j + k)))
theorem lj_wI0 {n : Nat} {aI aI' aN aE aK aA aB aC : Nat → Int32} {r : qt_R} (H : lj_wI n to ju le lg r aI aN aE aK aA aB aC) (hn : n < 3) (hI : ∀ j, j ≠ n → aI' j = aI j) (hI2 : aI' n = bo_p (to n && ju n)) (hf : (to n && ju n) = false) : lj_wI (n + 1) to ju le lg r aI' aN aE aK aA aB aC := by
  have hz : ∀ j, lj_n (n + 1) to ju j = lj_n n to ju j := by
    intro j
    by_cases e : j = n
    · subst e; unfold lj_n; rw [hf]; simp
    · exact lj_nS e
  refine ⟨?_, ?_, ?_⟩
  · intro j hj
    by_cases e : j = n
    · subst e; rw [hI2, if_pos (by omega)]
    · rw [hI j e, H.1 j hj]
      by_cases l : j < n
      · rw [if_pos l, if_pos (by omega)]
      · rw [if_neg l, if_neg (by omega)]
  · intro j hj; rw [hz]; exact H.2.1 j hj
  · intro j k hj; rw [hz]; exact H.2.2 j k hj
theorem lj_wI1 {n : Nat} {aI aN aE aK aA aB aC : Nat → Int32} {e q a b c : Nat} (H : lj_wI n to ju le lg (e, q, a, b, c) aI aN aE aK aA aB aC) (hn : n < 3) (hrm : ∀ j, j < 3 → (to j && ju j) = true → le j < 1000) (hl3 : ∀ j, j < 3 → le j ≤ 1000) (hf : (to n && ju n) = true) :
    lj_wI (n + 1) to ju le lg (e, q, a, b, c) aI (upd aN n (nI (le n + 1))) (upd aE (1000 * n + le n) (nI e)) (upd aK (1000 * n + le n) (nI q)) (upd aA (1000 * n + le n) (nI a)) (upd aB (1000 * n + le n) (nI b)) (upd aC (1000 * n + le n) (qt_m c)) := by
  have hz : lj_n (n + 1) to ju n = true := by unfold lj_n; rw [hf]; simp
  have hz0 : lj_n n to ju n = false := by unfold lj_n; simp
  refine ⟨?_, ?_, ?_⟩
  · intro j hj
    have := H.1 j hj
    rw [this]
    by_cases e : j = n
    · subst e
      rw [if_neg (by omega), if_pos (by omega), hf]
      rw [Bool.and_eq_true] at hf
      rw [hf.1]
    · by_cases l : j < n
      · rw [if_pos l, if_pos (by omega)]
      · rw [if_neg l, if_neg (by omega)]
  · intro j hj
    by_cases e : j = n
    · subst e; rw [pk_us, hz]; rfl
    · rw [pk_un e, lj_nS e]; exact H.2.1 j hj
  · intro j k hj hk
    by_cases e : j = n
    · subst e
      rw [hz] at hk ⊢
      by_cases z : k = le j
      · subst z
        rw [if_pos ⟨rfl, rfl⟩]
        exact ⟨pk_us, pk_us, pk_us, pk_us, pk_us⟩
      · rw [if_neg (fun y => z y.2)]
        have hk' : k < le j + 1 := hk
        have := H.2.2 j k hj (by rw [hz0]; simp; omega)
        rw [hz0, if_neg (fun y => absurd y.1 (by decide))] at this
        rw [pk_un (by omega), pk_un (by omega), pk_un (by omega), pk_un (by omega), pk_un (by omega)]
        exact this
    · rw [lj_nS e] at hk ⊢
      have h1 := hl3 j hj
      have h2 := hrm n hn hf
      have hk2 : k < 1000 := by
        by_cases y : lj_n n to ju j = true
        · rw [if_pos y] at hk
          have y' : (to j && ju j) = true := by unfold lj_n at y; rw [Bool.and_eq_true] at y; exact y.2
          have := hrm j hj y'
          omega
        · rw [if_neg y] at hk
          omega
      have hne : 1000 * j + k ≠ 1000 * n + le n := by omega
      rw [pk_un hne, pk_un hne, pk_un hne, pk_un hne, pk_un hne]
      exact H.2.2 j k hj hk
theorem lj_cnK {f : Nat → Bool} : 2 ≤ rd_cn f 3 ↔ lj_kp f = true := by
  show 2 ≤ 0 + (if f 0 then 1 else 0) + (if f 1 then 1 else 0) + (if f 2 then 1 else 0) ↔ _
  unfold lj_kp
  cases f 0 <;> cases f 1 <;> cases f 2 <;> decide
theorem rd_loS (f : Nat → Bool) (n : Nat) : rd_lo f (n + 1) = if f n = true then n + 1 else rd_lo f n := rfl
theorem lj_ifT {to ju : Nat → Bool} {j : Nat} (h : j < 3) : lj_n 3 to ju j = (to j && ju j) := by unfold lj_n; simp [h]
theorem xm_writeRecord {u : SX} (h : sx_T T u) (hI : qt_iv T) (hL : sx_L (mu, ju, ac, ep, to, pr, ba, le, lg) u) (hD : sx_D (nu, st, un, ua) u) (hac : 0 < ac) {k : Nat} (hiv : lj_iv k (mu, ju, ac, ep, to, pr, ba, le, lg) T) (hrm : lj_rm (mu, ju, ac, ep, to, pr, ba, le, lg) 1) {q a b c : Nat} (ho : qt_ok T (ep, q, a, b, c)) {post : Int32 → SX → Prop}
    (h1 : lj_kept (mu, ju, ac, ep, to, pr, ba, le, lg) = true → ∀ u', sx_T (qt_ap T (ep, q, a, b, c) (le (lj_src to))) u' → sx_L (lj_wr (mu, ju, ac, ep, to, pr, ba, le, lg) q a b c) u' → sx_D (nu, st, un, ua) u' → post 1 u')
    (h0 : lj_kept (mu, ju, ac, ep, to, pr, ba, le, lg) = false → ∀ u', sx_T T u' → sx_L (lj_wr (mu, ju, ac, ep, to, pr, ba, le, lg) q a b c) u' → sx_D (nu, st, un, ua) u' → post 0 u') : wpX_writeRecord post u (nI q) (nI a) (nI b) (qt_m c) := by
  obtain ⟨f_active, f_epoch, a_dataNodeDown, a_journalDown, a_masterDown, a_inTouch, a_promise, a_base, a_logLength, a_logEpoch, a_logKind, a_logA, a_logB, a_logC, a_inodeState, a_inodePlace, a_inodeClient, a_closeUnits, a_rowLength, a_rowBlock, a_blockStamp, a_replicaHeld, a_replicaStamp, a_unitCount, a_unitValue⟩ := u
  obtain ⟨l1, l2, l3, l4, l5, l6, l7, l8, l9⟩ := hL
  obtain ⟨d1, d2, d3, d4, d5⟩ := hD
  have h' : qt_ag True T a_inodeState a_inodePlace a_inodeClient a_closeUnits a_rowLength a_rowBlock a_blockStamp := h
  obtain ⟨i1, i2, i3, i4, i5, i6⟩ := hiv
  obtain ⟨t2, sh, eT⟩ := i6 hac
  have hl3 : ∀ j, j < 3 → le j ≤ 1000 := fun j hj => (i5 j hj).2.2.2
  have hlt : ∀ j, j < 3 → (to j && ju j) = true → le j < 1000 := by
    intro j hj z
    rw [Bool.and_eq_true] at z
    have := (hrm j hj z.1).2
    omega
  have key : ∀ m n i, i + m = 3 → m < n → ∀ aI aN aE aK aA aB aC : Nat → Int32, lj_wI i to ju le lg (ep, q, a, b, c) aI aN aE aK aA aB aC → wX_writeRecord_9 post (nI q) (nI a) (nI b) (qt_m c) n (nI (rd_cn (fun j => to j && ju j) i)) (qt_m (rd_lo (fun j => to j && ju j) i)) (nI i) f_active f_epoch a_dataNodeDown a_journalDown a_masterDown aI a_promise a_base aN aE aK aA aB aC a_inodeState a_inodePlace a_inodeClient a_closeUnits a_rowLength a_rowBlock a_blockStamp a_replicaHeld a_replicaStamp a_unitCount a_unitValue := by
    intro m
    induction m with
    | zero =>
      intro n i hi hn aI aN aE aK aA aB aC H
      obtain ⟨n, rfl⟩ : ∃ n', n = n' + 1 := ⟨n - 1, by omega⟩
      have e : i = 3 := by omega
      subst e
      have hcn := rd_cnL (fun j => to j && ju j) 3
      have hI3 : ∀ j, j < 3 → aI j = bo_p (to j && ju j) := by
        intro j hj
        have := H.1 j hj
        rw [if_pos hj] at this
        exact this
      have hN3 : ∀ j, j < 3 → aN j = nI (if (to j && ju j) = true then le j + 1 else le j) := by
        intro j hj
        have := H.2.1 j hj
        rw [lj_ifT hj] at this
        exact this
      have hC3 : ∀ j k, j < 3 → k < (if (to j && ju j) = true then le j + 1 else le j) → lj_ce ((if (to j && ju j) = true then qt_uR (lg j) (le j) (ep, q, a, b, c) else lg j) k) (aE (1000 * j + k)) (aK (1000 * j + k)) (aA (1000 * j + k)) (aB (1000 * j + k)) (aC (1000 * j + k)) := by
        intro j k hj hk
        have := H.2.2 j k hj
        rw [lj_ifT hj] at this
        have e : (if (to j && ju j) = true then qt_uR (lg j) (le j) (ep, q, a, b, c) else lg j) k = if (to j && ju j) = true ∧ k = le j then (ep, q, a, b, c) else lg j k := by
          by_cases z : (to j && ju j) = true
          · rw [if_pos z]
            by_cases y : k = le j
            · rw [if_pos ⟨z, y⟩, y, qt_uRs]
            · rw [if_neg (fun w => y w.2), qt_uRn y]
          · rw [if_neg z, if_neg (fun w => z w.1)]
        rw [e]
        exact this hk
      refine br_t lb_t (cd_if ((nI_leI (a := 2) (by decide) (by omega)).trans lj_cnK) (fun z => ?_) (fun z => ?_))
      · have hlo : ∃ s, s < 3 ∧ (to s && ju s) = true ∧ rd_lo (fun j => to j && ju j) 3 = s + 1 := by
          by_cases y : rd_lo (fun j => to j && ju j) 3 = 0
          · exfalso
            have z2 := lj_srcT (lj_kpT z)
            have hs : lj_src (fun j => to j && ju j) < 3 := lj_srcL _
            have hall : ∀ n, n ≤ 3 → rd_lo (fun j => to j && ju j) n = 0 → ∀ j, j < n → (to j && ju j) = false := by
              intro n
              induction n with
              | zero => intro _ _ j hj; omega
              | succ n ih =>
                intro hn hz j hj
                rw [rd_loS] at hz
                by_cases w : (to n && ju n) = true
                · rw [if_pos w] at hz; omega
                · rw [if_neg w] at hz
                  by_cases e : j = n
                  · subst e; simpa using w
                  · exact ih (by omega) hz j (by omega)
            have := hall 3 (by omega) y _ hs
            rw [z2] at this
            exact absurd this (by decide)
          · rcases rd_loP (f := fun j => to j && ju j) (n := 3) with w | ⟨y1, y2⟩
            · exact absurd w y
            · exact ⟨rd_lo (fun j => to j && ju j) 3 - 1, by omega, y2, by omega⟩
        obtain ⟨s, hs1, hs2, hs3⟩ := hlo
        have hs2' := hs2
        rw [Bool.and_eq_true] at hs2'
        obtain ⟨e1, e2⟩ := sh s hs1 hs2'.1
        have es : aN (nI s).toNatClampNeg - 1 = nI (le s) := by
          rw [nI_clamp (by omega), hN3 s hs1, if_pos hs2, nI_pred]
        rw [hs3, qt_ms]
        refine ⟨vp_in_nI hs1 (by decide), ?_⟩
        rw [es]
        have hls := hlt s hs1 hs2
        have hcs : (if (to s && ju s) = true then qt_uR (lg s) (le s) (ep, q, a, b, c) else lg s) (le s) = (ep, q, a, b, c) := by rw [if_pos hs2, qt_uRs]
        have hLw : sx_L (lj_wr (mu, ju, ac, ep, to, pr, ba, le, lg) q a b c) (f_active, f_epoch, a_dataNodeDown, a_journalDown, a_masterDown, aI, a_promise, a_base, aN, aE, aK, aA, aB, aC, a_inodeState, a_inodePlace, a_inodeClient, a_closeUnits, a_rowLength, a_rowBlock, a_blockStamp, a_replicaHeld, a_replicaStamp, a_unitCount, a_unitValue) := by
          refine ⟨?_, l2, l3, l4, hI3, l6, l7, hN3, hC3⟩
          rw [if_pos z]; exact l1
        refine xm_applyRecord (u := (f_active, f_epoch, a_dataNodeDown, a_journalDown, a_masterDown, aI, a_promise, a_base, aN, aE, aK, aA, aB, aC, a_inodeState, a_inodePlace, a_inodeClient, a_closeUnits, a_rowLength, a_rowBlock, a_blockStamp, a_replicaHeld, a_replicaStamp, a_unitCount, a_unitValue)) h' hI hLw ⟨d1, d2, d3, d4, d5⟩ hs1 (by rw [if_pos hs2]; omega) hls ?_ ?_
        · rw [hcs]; exact ho
        · rintro ⟨f_active, f_epoch, a_dataNodeDown, a_journalDown, a_masterDown, a_inTouch, a_promise, a_base, a_logLength, a_logEpoch, a_logKind, a_logA, a_logB, a_logC, a_inodeState, a_inodePlace, a_inodeClient, a_closeUnits, a_rowLength, a_rowBlock, a_blockStamp, a_replicaHeld, a_replicaStamp, a_unitCount, a_unitValue⟩ g1 g2 g3
          rw [hcs, e1] at g1
          exact h1 z _ g1 g2 g3
      · have z' : lj_kp (fun j => to j && ju j) = false := by simpa using z
        refine h0 z' _ h' ?_ ⟨d1, d2, d3, d4, d5⟩
        refine ⟨?_, l2, l3, l4, hI3, l6, l7, hN3, hC3⟩
        rw [if_neg z]; rfl
    | succ m ih =>
      intro n i hi hn aI aN aE aK aA aB aC H
      obtain ⟨n, rfl⟩ : ∃ n', n = n' + 1 := ⟨n - 1, by omega⟩
      have hi3 : i < 3 := by omega
      have hv := vp_in_nI hi3 (by decide : 3 < 2 ^ 31)
      have hc : (nI i).toNatClampNeg = i := nI_clamp (by omega)
      have hIi : aI i = bo_p (to i) := by have := H.1 i hi3; rw [if_neg (by omega)] at this; exact this
      have hNi : aN i = nI (le i) := by
        have := H.2.1 i hi3
        have z : lj_n i to ju i = false := by unfold lj_n; simp
        rw [z] at this
        exact this
      have hle := hl3 i hi3
      have skip : (to i && ju i) = false → ∀ aI' : Nat → Int32, (∀ j, j ≠ i → aI' j = aI j) → aI' i = bo_p (to i && ju i) → wX_writeRecord_9 post (nI q) (nI a) (nI b) (qt_m c) n (nI (rd_cn (fun j => to j && ju j) i)) (qt_m (rd_lo (fun j => to j && ju j) i)) (nI (i + 1)) f_active f_epoch a_dataNodeDown a_journalDown a_masterDown aI' a_promise a_base aN aE aK aA aB aC a_inodeState a_inodePlace a_inodeClient a_closeUnits a_rowLength a_rowBlock a_blockStamp a_replicaHeld a_replicaStamp a_unitCount a_unitValue := by
        intro hf aI' g1 g2
        have := ih n (i + 1) (by omega) (by omega) aI' aN aE aK aA aB aC (lj_wI0 H hi3 g1 g2 hf)
        rw [rd_cnF (f := fun j => to j && ju j) hf, rd_loS, if_neg (by simp [hf])] at this
        exact this
      refine br_f (lb_f hi3) ⟨hv, cd_if (cd_n (l3 i hi3) (by omega)) (fun hu => ?_) (fun hu => ?_)⟩
      · refine ⟨hv, cd_if (cd_p hIi (by omega)) (fun z => nm_r (nI_1 i) (skip (by rw [z]; rfl) aI (fun _ _ => rfl) (by rw [hIi, z]; rfl))) (fun z => ⟨hv, ?_⟩)⟩
        have z' : to i = true := by simpa using z
        have hf : (to i && ju i) = true := by rw [z', hu]; rfl
        have hlti := hlt i hi3 hf
        refine br_f ?_ ?_
        · rw [hc, hNi]; exact lb_f hlti
        · have ecell : nI i * 1000 + aN (nI i).toNatClampNeg = nI (1000 * i + le i) := by rw [hc, hNi]; exact mu_r i 1000 (le i)
          have hcell : (nI (1000 * i + le i)).toNatClampNeg = 1000 * i + le i := nI_clamp (by omega)
          have hvc := vp_in_nI (show 1000 * i + le i < 3000 by omega) (by decide)
          refine ⟨hv, nm_r ecell ⟨hvc, nm_e ⟨hvc, nm_e ⟨hvc, nm_e ⟨hvc, nm_e ⟨hvc, nm_e ⟨hv, hv, nm_e (nm_r (rd_cnT (f := fun j => to j && ju j) hf) (nm_r (nI_1 i) ?_))⟩⟩⟩⟩⟩⟩⟩
          have := ih n (i + 1) (by omega) (by omega) _ _ _ _ _ _ _ (lj_wI1 H hi3 hlt hl3 hf)
          rw [rd_loS, if_pos hf, qt_ms, show f_epoch = nI ep from l2] at this
          rw [hc, hNi, nI_1, hcell, show f_epoch = nI ep from l2]
          exact this
      · have hu' : ju i = false := by simpa using hu
        have hf : (to i && ju i) = false := by rw [hu']; cases to i <;> rfl
        have eI : upd aI i (vp_nar .boolean 0) i = bo_p (to i && ju i) := by rw [pk_us, hf]; rfl
        refine ⟨hv, nm_e ?_⟩
        rw [hc]
        exact ⟨hv, br_t (by rw [hc, pk_us]; rfl) (nm_r (nI_1 i) (skip hf _ (fun j hj => pk_un hj) eI))⟩
  refine ⟨4, key 3 4 0 (by omega) (by omega) _ _ _ _ _ _ _ ⟨?_, ?_, ?_⟩⟩
  · intro j hj
    rw [if_neg (by omega)]; exact l5 j hj
  · intro j hj
    rw [show lj_n 0 to ju j = false by unfold lj_n; simp]; exact l8 j hj
  · intro j k hj hk
    have e : lj_n 0 to ju j = false := by unfold lj_n; simp
    rw [e] at hk ⊢
    rw [if_neg (fun y => absurd y.1 (by decide))]
    exact l9 j k hj hk
end
end
section
/-! records: the reference -/
theorem qt_pkK {r : qt_R} (h : qt_rb r) : (lN (qt_pk r)).toInt32 &&& 7 = nI r.2.1 := by
  have hl := qt_pkL h
  rw [lN_i, pk_andN (by omega) 3 (by decide)]
  exact congrArg nI (qt_pkD h).1
theorem qt_pkA {r : qt_R} (h : qt_rb r) : (lN (qt_pk r) >>> ((3 : Int32).toInt64 &&& 63)).toInt32 &&& 31 = nI r.2.2.1 := by
  have hl := qt_pkL h
  have hd : qt_pk r / 2 ^ 3 ≤ qt_pk r := Nat.div_le_self _ _
  rw [pf_shr (d := 3) (by decide) (by omega), lN_i, pk_andN (by omega) 5 (by decide)]
  exact congrArg nI (qt_pkD h).2.1
theorem qt_pkB {r : qt_R} (h : qt_rb r) : (lN (qt_pk r) >>> ((8 : Int32).toInt64 &&& 63)).toInt32 &&& 255 = nI r.2.2.2.1 := by
  have hl := qt_pkL h
  have hd : qt_pk r / 2 ^ 8 ≤ qt_pk r := Nat.div_le_self _ _
  rw [pf_shr (d := 8) (by decide) (by omega), lN_i, pk_andN (by omega) 8 (by decide)]
  exact congrArg nI (qt_pkD h).2.2.1
theorem qt_pkC {r : qt_R} (h : qt_rb r) : ((lN (qt_pk r) >>> ((16 : Int32).toInt64 &&& 63)).toInt32 &&& 15) - 1 = qt_m r.2.2.2.2 := by
  have hl := qt_pkL h
  have hd : qt_pk r / 2 ^ 16 ≤ qt_pk r := Nat.div_le_self _ _
  rw [pf_shr (d := 16) (by decide) (by omega), lN_i, pk_andN (by omega) 4 (by decide)]
  exact congrArg (fun x => nI x - 1) (qt_pkD h).2.2.2.1
theorem qt_pkE {r : qt_R} (h : qt_rb r) : (lN (qt_pk r) >>> ((20 : Int32).toInt64 &&& 63)).toInt32 = nI r.1 := by
  have hl := qt_pkL h
  rw [pf_shr (d := 20) (by decide) (by omega), lN_i]
  exact congrArg nI (qt_pkD h).2.2.2.2
theorem qt_mA (c : Nat) : qt_m c + 1 = nI c := by unfold qt_m; exact Int32.sub_add_cancel _ _
theorem qt_pkW {e q a b c : Nat} (h : qt_rb (e, q, a, b, c)) : (((((nI e).toInt64 <<< ((20 : Int32).toInt64 &&& 63)) ||| (((qt_m c + 1) <<< ((16 : Int32) &&& 31)).toInt64)) ||| ((nI b <<< ((8 : Int32) &&& 31)).toInt64)) ||| ((nI a <<< ((3 : Int32) &&& 31)).toInt64)) ||| (nI q).toInt64 = lN (qt_pk (e, q, a, b, c)) := by
  obtain ⟨h1, h2, h3, h4, h5⟩ := h
  dsimp only at h1 h2 h3 h4 h5
  rw [qt_mA, pk_shlN ((16 : Int32) &&& 31) 16 (by decide) (by omega), pk_shlN ((8 : Int32) &&& 31) 8 (by decide) (by omega), pk_shlN ((3 : Int32) &&& 31) 3 (by decide) (by omega),
    nI_l (by omega), nI_l (by omega), nI_l (by omega), nI_l (by omega), nI_l (by omega)]
  have e0 : lN e <<< ((20 : Int32).toInt64 &&& 63) = lN (e * 2 ^ 20) := wb_shl e (k := 20) (by decide)
  rw [e0, qt_or (k := 20) (by omega) (by omega), show e * 2 ^ 20 + c * 2 ^ 16 = (e * 16 + c) * 2 ^ 16 by omega, qt_or (k := 16) (by omega) (by omega),
    show (e * 16 + c) * 2 ^ 16 + b * 2 ^ 8 = ((e * 16 + c) * 256 + b) * 2 ^ 8 by omega, qt_or (k := 8) (by omega) (by omega),
    show ((e * 16 + c) * 256 + b) * 2 ^ 8 + a * 2 ^ 3 = (((e * 16 + c) * 256 + b) * 32 + a) * 2 ^ 3 by omega, qt_or (k := 3) (by omega) (by omega)]
  apply congrArg lN
  show _ = e * 1048576 + c * 65536 + b * 256 + a * 8 + q
  omega
section
variable {T : qt_T} {mu ju : Nat → Bool} {ac ep : Nat} {to : Nat → Bool} {pr ba le : Nat → Nat} {lg : Nat → Nat → qt_R} {nu : Nat → Bool} {st un : Nat → Nat} {ua : Nat → Int32}
theorem ym_source {v : SY} (hL : sy_L (mu, ju, ac, ep, to, pr, ba, le, lg) v) {post : Int32 → Prop} (hp : post (nI (lj_src to))) : wpY_source post v := by
  obtain ⟨f_active, f_epoch, a_nodeUp, a_journalUp, a_masterUp, a_touch, a_log, a_many, a_promise, a_base, a_stamp, a_units, a_unit, a_sort, a_placeOf, a_client, a_rowLength, a_row, a_closedWith, a_stampOf⟩ := v
  obtain ⟨l1, l2, l3, l4, l5, l6, l7, l8, l9⟩ := hL
  have h0 : a_touch 0 = 0 ↔ to 0 = false := by rw [l5 0 (by decide), bo_p0]
  have h1 : a_touch 1 = 0 ↔ to 1 = false := by rw [l5 1 (by decide), bo_p0]
  refine cd_if h0 (fun z0 => cd_if h1 (fun z1 => ?_) (fun z1 => ?_)) (fun z0 => ?_)
  · have e : lj_src to = 2 := by unfold lj_src; rw [z0, z1]; rfl
    rw [e] at hp; exact hp
  · have e : lj_src to = 1 := by unfold lj_src; rw [z0, show to 1 = true by simpa using z1]; rfl
    rw [e] at hp; exact hp
  · have e : lj_src to = 0 := by unfold lj_src; rw [show to 0 = true by simpa using z0]; rfl
    rw [e] at hp; exact hp
theorem ym_nextStamp {v : SY} (hL : sy_L (mu, ju, ac, ep, to, pr, ba, le, lg) v) {post : Int32 → Prop} (hp : post (nI (2048 * ep + le (lj_src to)))) : wpY_nextStamp post v := by
  obtain ⟨f_active, f_epoch, a_nodeUp, a_journalUp, a_masterUp, a_touch, a_log, a_many, a_promise, a_base, a_stamp, a_units, a_unit, a_sort, a_placeOf, a_client, a_rowLength, a_row, a_closedWith, a_stampOf⟩ := v
  unfold wpY_nextStamp
  refine ym_source (v := (f_active, f_epoch, a_nodeUp, a_journalUp, a_masterUp, a_touch, a_log, a_many, a_promise, a_base, a_stamp, a_units, a_unit, a_sort, a_placeOf, a_client, a_rowLength, a_row, a_closedWith, a_stampOf)) hL ⟨vp_in_nI (lj_srcL to) (by decide), ?_⟩
  have e : f_epoch = nI ep := hL.2.1
  have hs := lj_srcL to
  rw [e, nI_clamp (by omega), hL.2.2.2.2.2.2.2.1 _ hs]
  rw [← mu_l] at hp
  exact hp
theorem ym_apply {v : SY} (h : sy_T T v) (hI : qt_iv T) (hL : sy_L (mu, ju, ac, ep, to, pr, ba, le, lg) v) (hD : sy_D (nu, st, un, ua) v) {post : SY → Prop} {k : Nat} {r : qt_R} (hk2 : k < 1000) (ho : qt_ok T r) (hp : ∀ v', sy_T (qt_ap T r k) v' → sy_L (mu, ju, ac, ep, to, pr, ba, le, lg) v' → sy_D (nu, st, un, ua) v' → post v') : wpY_apply post v (lN (qt_pk r)) (nI k) := by
  obtain ⟨f_active, f_epoch, a_nodeUp, a_journalUp, a_masterUp, a_touch, a_log, a_many, a_promise, a_base, a_stamp, a_units, a_unit, a_sort, a_placeOf, a_client, a_rowLength, a_row, a_closedWith, a_stampOf⟩ := v
  obtain ⟨so, pl, cl, cw, rl, ro, sp⟩ := T
  obtain ⟨l1, l2, l3, l4, l5, l6, l7, l8, l9⟩ := hL
  obtain ⟨d1, d2, d3, d4⟩ := hD
  have hB := qt_okB ho
  have pK := qt_pkK hB
  have pA := qt_pkA hB
  have pB := qt_pkB hB
  have pC := qt_pkC hB
  have pE := qt_pkE hB
  obtain ⟨e, q, a, b, c⟩ := r
  obtain ⟨hB1, hB2, hB3, hB4, hB5⟩ := hB
  dsimp only at pK pA pB pC pE hB1 hB2 hB3 hB4 hB5
  have h4 := qt_iv4 hI
  dsimp only [qt_rl] at h4
  refine nm_r pK (nm_r pA (nm_r pB (nm_r pC (nm_r (e' := nI (2048 * e + k)) (by rw [pE]; exact mu_l e 2048 k) ?_))))
  obtain ⟨_, ho⟩ := ho
  rcases ho with ⟨rfl, g1, g2, g3, g4, g5, g6⟩ | ⟨rfl, g1, g2, g3, g4, g5⟩ | ⟨rfl, g1, g2, g3⟩ | ⟨rfl, g1, g2, g3, g4⟩ | ⟨rfl, g1, g2, g3, g4, g5⟩ | ⟨rfl, g1, g2, g3, g4, g5, g6, g7⟩
  · have hva := vp_in_nI g2 (by decide : 12 < 2 ^ 31)
    have hca : (nI a).toNatClampNeg = a := nI_clamp (by omega)
    refine br_f (by decide) (br_f (by decide) (br_t rfl ?_))
    refine cd_if (qt_Nm (s := 0) (by omega) (by decide)) (fun z => ?_) (fun z => ?_)
    · refine ⟨hva, nm_e ⟨hva, nm_e ⟨hva, nm_e ⟨hva, nm_e ?_⟩⟩⟩⟩
      rw [hca]
      exact hp _ (qt_agMake (e := e) (k := k) h (by rw [if_neg (by omega)]; rfl) rfl rfl (fun i hi => rfl)) ⟨l1, l2, l3, l4, l5, l6, l7, l8, l9⟩ ⟨d1, d2, d3, d4⟩
    · refine ⟨hva, nm_e ⟨hva, nm_e ⟨hva, nm_e ⟨hva, nm_e ?_⟩⟩⟩⟩
      rw [hca]
      exact hp _ (qt_agMake (e := e) (k := k) h (by rw [if_pos (by omega)]; rfl) rfl rfl (fun i hi => rfl)) ⟨l1, l2, l3, l4, l5, l6, l7, l8, l9⟩ ⟨d1, d2, d3, d4⟩
  · have hva := vp_in_nI g1 (by decide : 12 < 2 ^ 31)
    have hca : (nI a).toNatClampNeg = a := nI_clamp (by omega)
    have hcb : (nI b).toNatClampNeg = b := nI_clamp (by omega)
    have hr : a_rowLength a = nI (rl a) := h.2.2.2.2.1 a g1
    have hix : 3 * nI a + nI (rl a) = nI (3 * a + rl a) := mu_l a 3 (rl a)
    refine br_f (by decide) (br_f (by decide) (br_f (by decide) (br_t rfl ?_)))
    refine ⟨hva, ?_⟩
    rw [hca, hr, hix, hcb, nI_1, show (nI (3 * a + rl a)).toNatClampNeg = 3 * a + rl a from nI_clamp (by omega)]
    exact ⟨vp_in_nI (by omega) (by decide), nm_e ⟨hva, hva, nm_e ⟨vp_in_nI g4 (by decide), nm_e (hp _ (qt_agBlock (e := e) (c := c) (k := k) h rfl rfl rfl h4 g3) ⟨l1, l2, l3, l4, l5, l6, l7, l8, l9⟩ ⟨d1, d2, d3, d4⟩)⟩⟩⟩
  · have hca : (nI a).toNatClampNeg = a := nI_clamp (by omega)
    refine br_f (by decide) (br_f (by decide) (br_f (by decide) (br_f (by decide) (br_t rfl ⟨vp_in_nI g1 (by decide), nm_e ?_⟩))))
    rw [hca]
    exact hp _ (qt_agStamp (e := e) (b := b) (c := c) (k := k) h rfl) ⟨l1, l2, l3, l4, l5, l6, l7, l8, l9⟩ ⟨d1, d2, d3, d4⟩
  · have hva := vp_in_nI g1 (by decide : 12 < 2 ^ 31)
    have hca : (nI a).toNatClampNeg = a := nI_clamp (by omega)
    have hr : a_rowLength a = nI (rl a) := h.2.2.2.2.1 a g1
    have hra := h4 a g1
    refine br_f (by decide) (br_f (by decide) (br_f (by decide) (br_f (by decide) (br_f (by decide) (br_t rfl ?_)))))
    refine ⟨hva, nm_e ⟨hva, nm_e ?_⟩⟩
    rw [hca, hr]
    refine cd_if (nI_eq (b := 0) (by omega) (by decide)) (fun z => ⟨hva, cd_if (nI_leI (b := 0) (by omega) (by decide)) (fun y => hp _ (qt_agClose (e := e) (c := c) (k := k) h rfl (fun i hi => ?_)) ⟨l1, l2, l3, l4, l5, l6, l7, l8, l9⟩ ⟨d1, d2, d3, d4⟩) (fun y => ⟨hva, hva, nm_e (hp _ (qt_agClose (e := e) (c := c) (k := k) h rfl (fun i hi => ?_)) ⟨l1, l2, l3, l4, l5, l6, l7, l8, l9⟩ ⟨d1, d2, d3, d4⟩)⟩)⟩) (fun z => hp _ (qt_agClose (e := e) (c := c) (k := k) h rfl (fun i hi => ?_)) ⟨l1, l2, l3, l4, l5, l6, l7, l8, l9⟩ ⟨d1, d2, d3, d4⟩)
    · rw [if_pos z]
      by_cases w : i = a
      · subst w; rw [qt_us, hr]; congr 1; omega
      · rw [qt_un w]; exact h.2.2.2.2.1 i hi
    · rw [if_pos z]
      by_cases w : i = a
      · subst w
        rw [pk_us, qt_us]
        obtain ⟨x, hx⟩ : ∃ x, rl i = x + 1 := ⟨rl i - 1, by omega⟩
        rw [hx, nI_pred]; rfl
      · rw [pk_un w, qt_un w]; exact h.2.2.2.2.1 i hi
    · rw [if_neg z]; exact h.2.2.2.2.1 i hi
  · have hva := vp_in_nI g2 (by decide : 12 < 2 ^ 31)
    have hca : (nI a).toNatClampNeg = a := nI_clamp (by omega)
    refine br_f (by decide) (br_f (by decide) (br_f (by decide) (br_f (by decide) (br_f (by decide) (br_f (by decide) (br_t rfl ?_))))))
    refine ⟨hva, nm_e ⟨hva, nm_e ?_⟩⟩
    rw [hca]
    exact hp _ (qt_agRemove (e := e) (b := b) (c := c) (k := k) h) ⟨l1, l2, l3, l4, l5, l6, l7, l8, l9⟩ ⟨d1, d2, d3, d4⟩
  · have hva := vp_in_nI g2 (by decide : 12 < 2 ^ 31)
    have hca : (nI a).toNatClampNeg = a := nI_clamp (by omega)
    refine br_f (by decide) (br_t (by decide) ⟨hva, nm_e ?_⟩)
    rw [hca]
    exact hp _ (qt_agMove (e := e) (c := c) (k := k) h rfl) ⟨l1, l2, l3, l4, l5, l6, l7, l8, l9⟩ ⟨d1, d2, d3, d4⟩
theorem ym_tell {v : SY} (hL : sy_L (mu, ju, ac, ep, to, pr, ba, le, lg) v) (hD : sy_D (nu, st, un, ua) v) {post : SY → Prop} (hw : ∀ j, j < 3 → qt_wf (lg j) (le j) ∧ le j ≤ 1000) (hp : ∀ v', sy_T (qt_ab (lg (lj_src to)) (le (lj_src to))) v' → sy_L (mu, ju, ac, ep, to, pr, ba, le, lg) v' → sy_D (nu, st, un, ua) v' → post v') : wpY_tell post v := by
  obtain ⟨f_active, f_epoch, a_nodeUp, a_journalUp, a_masterUp, a_touch, a_log, a_many, a_promise, a_base, a_stamp, a_units, a_unit, a_sort, a_placeOf, a_client, a_rowLength, a_row, a_closedWith, a_stampOf⟩ := v
  obtain ⟨hws, hls⟩ := hw _ (lj_srcL to)
  have hsl := lj_srcL to
  have key : ∀ m n k, k + m = le (lj_src to) → m < n → ∀ f_active f_epoch a_nodeUp a_journalUp a_masterUp a_touch a_log a_many a_promise a_base a_stamp a_units a_unit a_sort a_placeOf a_client a_rowLength a_row a_closedWith a_stampOf, sy_T (qt_ab (lg (lj_src to)) k) (f_active, f_epoch, a_nodeUp, a_journalUp, a_masterUp, a_touch, a_log, a_many, a_promise, a_base, a_stamp, a_units, a_unit, a_sort, a_placeOf, a_client, a_rowLength, a_row, a_closedWith, a_stampOf) → sy_L (mu, ju, ac, ep, to, pr, ba, le, lg) (f_active, f_epoch, a_nodeUp, a_journalUp, a_masterUp, a_touch, a_log, a_many, a_promise, a_base, a_stamp, a_units, a_unit, a_sort, a_placeOf, a_client, a_rowLength, a_row, a_closedWith, a_stampOf) → sy_D (nu, st, un, ua) (f_active, f_epoch, a_nodeUp, a_journalUp, a_masterUp, a_touch, a_log, a_many, a_promise, a_base, a_stamp, a_units, a_unit, a_sort, a_placeOf, a_client, a_rowLength, a_row, a_closedWith, a_stampOf) → wY_tell_50 post (nI (lj_src to)) n (nI k) f_active f_epoch a_nodeUp a_journalUp a_masterUp a_touch a_log a_many a_promise a_base a_stamp a_units a_unit a_sort a_placeOf a_client a_rowLength a_row a_closedWith a_stampOf := by
    intro m
    induction m with
    | zero =>
      intro n k hk hn f_active f_epoch a_nodeUp a_journalUp a_masterUp a_touch a_log a_many a_promise a_base a_stamp a_units a_unit a_sort a_placeOf a_client a_rowLength a_row a_closedWith a_stampOf hT hL hD
      obtain ⟨n, rfl⟩ : ∃ n', n = n' + 1 := ⟨n - 1, by omega⟩
      refine ⟨vp_in_nI hsl (by decide), br_t ((cd_ge (hL.2.2.2.2.2.2.2.1 _ hsl) (by omega) (by omega) (by omega)).mpr (by omega)) ?_⟩
      have e : k = le (lj_src to) := by omega
      subst e
      exact hp _ hT hL hD
    | succ m ih =>
      intro n k hk hn f_active f_epoch a_nodeUp a_journalUp a_masterUp a_touch a_log a_many a_promise a_base a_stamp a_units a_unit a_sort a_placeOf a_client a_rowLength a_row a_closedWith a_stampOf hT hL hD
      obtain ⟨n, rfl⟩ : ∃ n', n = n' + 1 := ⟨n - 1, by omega⟩
      refine ⟨vp_in_nI hsl (by decide), br_f ((not_congr (cd_ge (hL.2.2.2.2.2.2.2.1 _ hsl) (by omega) (by omega) (by omega))).mpr (by omega)) ?_⟩
      rw [show 1001 * nI (lj_src to) + nI k = nI (1001 * lj_src to + k) from mu_l _ 1001 k]
      refine ⟨vp_in_nI (by omega) (by decide), ?_⟩
      rw [nI_clamp (by omega), hL.2.2.2.2.2.2.2.2 _ k hsl (by omega)]
      refine ym_apply (v := (f_active, f_epoch, a_nodeUp, a_journalUp, a_masterUp, a_touch, a_log, a_many, a_promise, a_base, a_stamp, a_units, a_unit, a_sort, a_placeOf, a_client, a_rowLength, a_row, a_closedWith, a_stampOf)) hT (qt_ivAb (fun i hi => hws i (by omega)) (by omega)) hL hD (by omega) (hws k (by omega)) ?_
      rintro ⟨f_active, f_epoch, a_nodeUp, a_journalUp, a_masterUp, a_touch, a_log, a_many, a_promise, a_base, a_stamp, a_units, a_unit, a_sort, a_placeOf, a_client, a_rowLength, a_row, a_closedWith, a_stampOf⟩ hT hL hD
      exact nm_r (nI_1 k) (ih n (k + 1) (by omega) (by omega) _ _ _ _ _ _ _ _ _ _ _ _ _ _ _ _ _ _ _ _ hT hL hD)
  obtain ⟨l1, l2, l3, l4, l5, l6, l7, l8, l9⟩ := hL
  obtain ⟨d1, d2, d3, d4⟩ := hD
  have p1 : ∀ k n i, i + k = 12 → k < n → ∀ aS aP aL : Nat → Int32, (∀ j, j < i → aS j = (if j = 0 then 1 else 0) ∧ aP j = -1 ∧ aL j = 0) → wY_tell_2 post f_active f_epoch n (nI i) a_nodeUp a_journalUp a_masterUp a_touch a_log a_many a_promise a_base a_stamp a_units a_unit aS aP a_client aL a_row a_closedWith a_stampOf := by
    intro k
    induction k with
    | zero =>
      intro n i hi hn aS aP aL H
      obtain ⟨n, rfl⟩ : ∃ n', n = n' + 1 := ⟨n - 1, by omega⟩
      have e : i = 12 := by omega
      subst e
      refine br_t lb_t (ym_source (v := (f_active, f_epoch, a_nodeUp, a_journalUp, a_masterUp, a_touch, a_log, a_many, a_promise, a_base, a_stamp, a_units, a_unit, aS, aP, a_client, aL, a_row, a_closedWith, a_stampOf)) ⟨l1, l2, l3, l4, l5, l6, l7, l8, l9⟩ ⟨le (lj_src to) + 1, key (le (lj_src to)) _ 0 (by omega) (by omega) _ _ _ _ _ _ _ _ _ _ _ _ _ _ _ _ _ _ _ _ ⟨?_, ?_, ?_, ?_, ?_, ?_, ?_⟩ ⟨l1, l2, l3, l4, l5, l6, l7, l8, l9⟩ ⟨d1, d2, d3, d4⟩⟩)
      · intro i hi
        rw [(H i hi).1]
        by_cases z : i = 0
        · subst z; rfl
        · rw [if_neg z, qt_un z]; rfl
      · intro i hi
        rw [(H i hi).2.1]; exact qt_m0.symm
      · intro i hi z
        exfalso
        by_cases y : i = 0
        · subst y; exact absurd z (by decide)
        · rw [qt_un y] at z; omega
      · intro i hi z
        exfalso
        by_cases y : i = 0
        · subst y; exact absurd z (by decide)
        · rw [qt_un y] at z; omega
      · intro i hi
        rw [(H i hi).2.2]; rfl
      · intro i k hi hk
        exact absurd hk (Nat.not_lt_zero _)
      · intro b hb z
        rcases z with z | ⟨i, k, _, hk, _⟩
        · exact z.elim
        · exact absurd hk (Nat.not_lt_zero _)
    | succ k ih =>
      intro n i hi hn aS aP aL H
      obtain ⟨n, rfl⟩ : ∃ n', n = n' + 1 := ⟨n - 1, by omega⟩
      have hi' : i < 12 := by omega
      have hv := vp_in_nI hi' (by decide : 12 < 2 ^ 31)
      have step : ∀ z : Int32, z = (if i = 0 then 1 else 0) → wY_tell_22 post (wY_tell_2 post f_active f_epoch n) (nI i) z (nI i) f_active f_epoch a_nodeUp a_journalUp a_masterUp a_touch a_log a_many a_promise a_base a_stamp a_units a_unit aS aP a_client aL a_row a_closedWith a_stampOf := by
        intro z hz
        refine ⟨hv, nm_e ⟨hv, nm_e ⟨hv, nm_e (nm_r (nI_1 i) (ih n (i + 1) (by omega) (by omega) _ _ _ (fun j hj => ?_)))⟩⟩⟩
        rw [nI_clamp (by omega)]
        by_cases y : j = i
        · subst y; exact ⟨pk_us.trans hz, pk_us, pk_us⟩
        · rw [pk_un y, pk_un y, pk_un y]; exact H j (by omega)
      exact br_f (lb_f hi') (cd_if (nI_eq (b := 0) (by omega) (by decide)) (fun z => step 1 (by rw [if_pos z])) (fun z => step 0 (by rw [if_neg z])))
  exact ⟨13, p1 12 13 0 (by omega) (by omega) _ _ _ (fun j hj => by omega)⟩
end
end
section
/-! writing records: the reference -/
section
variable {T : qt_T} {mu ju : Nat → Bool} {ac ep : Nat} {to : Nat → Bool} {pr ba le : Nat → Nat} {lg : Nat → Nat → qt_R} {nu : Nat → Bool} {st un : Nat → Nat} {ua : Nat → Int32}
theorem ym_tooMany {v : SY} (hL : sy_L (mu, ju, ac, ep, to, pr, ba, le, lg) v) (hl : ∀ j, j < 3 → ba j ≤ le j ∧ le j ≤ 1000) {post : Int32 → Prop} {R : Nat} (hR : R ≤ 2) (h1 : ¬ lj_rm (mu, ju, ac, ep, to, pr, ba, le, lg) R → post 1) (h0 : lj_rm (mu, ju, ac, ep, to, pr, ba, le, lg) R → post 0) : wpY_tooMany post v (nI R) := by
  obtain ⟨f_active, f_epoch, a_nodeUp, a_journalUp, a_masterUp, a_touch, a_log, a_many, a_promise, a_base, a_stamp, a_units, a_unit, a_sort, a_placeOf, a_client, a_rowLength, a_row, a_closedWith, a_stampOf⟩ := v
  obtain ⟨l1, l2, l3, l4, l5, l6, l7, l8, l9⟩ := hL
  have key : ∀ k n j, j + k = 3 → k < n → (∀ i, i < j → to i = true → (ju i = true → le i + R ≤ ba i + 40) ∧ le i + R ≤ 1000) → wY_tooMany_2 post (nI R) f_active f_epoch a_nodeUp a_journalUp a_masterUp a_touch a_log a_many a_promise a_base a_stamp a_units a_unit a_sort a_placeOf a_client a_rowLength a_row a_closedWith a_stampOf n (nI j) := by
    intro k
    induction k with
    | zero =>
      intro n j hj hn H
      obtain ⟨n, rfl⟩ : ∃ n', n = n' + 1 := ⟨n - 1, by omega⟩
      have e : j = 3 := by omega
      subst e
      exact br_t lb_t (h0 H)
    | succ k ih =>
      intro n j hj hn H
      obtain ⟨n, rfl⟩ : ∃ n', n = n' + 1 := ⟨n - 1, by omega⟩
      have hj3 : j < 3 := by omega
      obtain ⟨b1, b2⟩ := hl j hj3
      have hv := vp_in_nI hj3 (by decide : 3 < 2 ^ 31)
      have hc : (nI j).toNatClampNeg = j := nI_clamp (by omega)
      have bad : ¬ (to j = true → (ju j = true → le j + R ≤ ba j + 40) ∧ le j + R ≤ 1000) → post 1 := fun z => h1 (fun y => z (y j hj3))
      have go : (to j = true → (ju j = true → le j + R ≤ ba j + 40) ∧ le j + R ≤ 1000) → wY_tooMany_2 post (nI R) f_active f_epoch a_nodeUp a_journalUp a_masterUp a_touch a_log a_many a_promise a_base a_stamp a_units a_unit a_sort a_placeOf a_client a_rowLength a_row a_closedWith a_stampOf n (nI (j + 1)) := by
        intro z
        refine ih n (j + 1) (by omega) (by omega) (fun i hi => ?_)
        by_cases e : i = j
        · subst e; exact z
        · exact H i (by omega)
      have eadd : a_many (nI j).toNatClampNeg + nI R = nI (le j + R) := by rw [hc, l8 j hj3, nI_add]
      have esub : a_many (nI j).toNatClampNeg - a_base (nI j).toNatClampNeg + nI R = nI (le j - ba j + R) := by rw [hc, l7 j hj3, l8 j hj3, pk_sub b1, nI_add]
      have s48 : to j = true → (ju j = true → le j + R ≤ ba j + 40) → wY_tooMany_48 post (wY_tooMany_2 post (nI R) f_active f_epoch a_nodeUp a_journalUp a_masterUp a_touch a_log a_many a_promise a_base a_stamp a_units a_unit a_sort a_placeOf a_client a_rowLength a_row a_closedWith a_stampOf n) (nI R) (nI j) f_active f_epoch a_nodeUp a_journalUp a_masterUp a_touch a_log a_many a_promise a_base a_stamp a_units a_unit a_sort a_placeOf a_client a_rowLength a_row a_closedWith a_stampOf := by
        intro ht hx
        refine ⟨hv, ?_⟩
        rw [eadd]
        exact cd_if (nI_leI (b := 1000) (by omega) (by decide)) (fun y => nm_r (nI_1 j) (go (fun _ => ⟨hx, y⟩))) (fun y => bad (fun w => y (w ht).2))
      refine br_f (lb_f hj3) ⟨hv, cd_if (cd_p (l5 j hj3) (by omega)) (fun z => nm_r (nI_1 j) (go (fun y => by rw [z] at y; exact absurd y (by decide)))) (fun z => ⟨hv, cd_if (cd_p (l3 j hj3) (by omega)) (fun hu => s48 (by simpa using z) (fun x => by rw [hu] at x; exact absurd x (by decide))) (fun hu => ⟨hv, hv, ?_⟩)⟩)⟩
      rw [esub]
      have z' : to j = true := by simpa using z
      have hu' : ju j = true := by simpa using hu
      exact cd_if (nI_ltI (a := 40) (by decide) (by omega)) (fun y => bad (fun w => by have := (w z').1 hu'; omega)) (fun y => s48 z' (fun _ => by omega))
  exact ⟨4, key 3 4 0 (by omega) (by omega) (fun i hi => by omega)⟩
def lj_yI (n : Nat) (to ju : Nat → Bool) (le : Nat → Nat) (lg : Nat → Nat → qt_R) (r : qt_R) (aI aN : Nat → Int32) (aG : Nat → Int64) : Prop :=
  (∀ j, j < 3 → aI j = bo_p (if j < n then to j && ju j else to j)) ∧ (∀ j, j < 3 → aN j = nI (if lj_n n to ju j = true then le j + 1 else le j))
    ∧ (∀ j k, j < 3 → k < (if lj_n n to ju j = true then le j + 1 else le j) → aG (1001 * j + k) = lN (qt_pk (if lj_n n to ju j = true ∧ k = le j then r else lg j k)))
theorem lj_yI0 {n : Nat} {aI aI' aN : Nat → Int32} {aG : Nat → Int64} {r : qt_R} (H : lj_yI n to ju le lg r aI aN aG) (hn : n < 3) (hI : ∀ j, j ≠ n → aI' j = aI j) (hI2 : aI' n = bo_p (to n && ju n)) (hf : (to n && ju n) = false) : lj_yI (n + 1) to ju le lg r aI' aN aG := by
  have hz : ∀ j, lj_n (n + 1) to ju j = lj_n n to ju j := by
    intro j
    by_cases e : j = n
    · subst e; unfold lj_n; rw [hf]; simp
    · exact lj_nS e
  refine ⟨?_, ?_, ?_⟩
  · intro j hj
    by_cases e : j = n
    · subst e; rw [hI2, if_pos (by omega)]
    · rw [hI j e, H.1 j hj]
      by_cases l : j < n
      · rw [if_pos l, if_pos (by omega)]
      · rw [if_neg l, if_neg (by omega)]
  · intro j hj; rw [hz]; exact H.2.1 j hj
  · intro j k hj; rw [hz]; exact H.2.2 j k hj
theorem lj_yI1 {n : Nat} {aI aN : Nat → Int32} {aG : Nat → Int64} {r : qt_R} (H : lj_yI n to ju le lg r aI aN aG) (hn : n < 3) (hl3 : ∀ j, j < 3 → le j ≤ 1000) (hf : (to n && ju n) = true) :
    lj_yI (n + 1) to ju le lg r aI (upd aN n (nI (le n + 1))) (vp_updL aG (1001 * n + le n) (lN (qt_pk r))) := by
  have hz : lj_n (n + 1) to ju n = true := by unfold lj_n; rw [hf]; simp
  have hz0 : lj_n n to ju n = false := by unfold lj_n; simp
  refine ⟨?_, ?_, ?_⟩
  · intro j hj
    have := H.1 j hj
    rw [this]
    by_cases e : j = n
    · subst e
      rw [if_neg (by omega), if_pos (by omega), hf]
      rw [Bool.and_eq_true] at hf
      rw [hf.1]
    · by_cases l : j < n
      · rw [if_pos l, if_pos (by omega)]
      · rw [if_neg l, if_neg (by omega)]
  · intro j hj
    by_cases e : j = n
    · subst e; rw [pk_us, hz]; rfl
    · rw [pk_un e, lj_nS e]; exact H.2.1 j hj
  · intro j k hj hk
    by_cases e : j = n
    · subst e
      rw [hz] at hk ⊢
      by_cases z : k = le j
      · subst z
        rw [if_pos ⟨rfl, rfl⟩]
        exact pk_uLs
      · rw [if_neg (fun y => z y.2)]
        have hk' : k < le j + 1 := hk
        have := H.2.2 j k hj (by rw [hz0]; simp; omega)
        rw [hz0, if_neg (fun y => absurd y.1 (by decide))] at this
        rw [pk_uLn (by omega)]
        exact this
    · rw [lj_nS e] at hk ⊢
      have h1 := hl3 j hj
      have h2 := hl3 n hn
      have hk2 : k < 1001 := by
        split at hk <;> omega
      rw [pk_uLn (by omega)]
      exact H.2.2 j k hj hk
theorem ym_write {v : SY} (hL : sy_L (mu, ju, ac, ep, to, pr, ba, le, lg) v) (hD : sy_D (nu, st, un, ua) v) (hl3 : ∀ j, j < 3 → le j ≤ 1000) {q a b c : Nat} (ho : qt_rb (ep, q, a, b, c)) {post : Int32 → SY → Prop}
    (h1 : lj_kept (mu, ju, ac, ep, to, pr, ba, le, lg) = true → ∀ v', sy_L (lj_wr (mu, ju, ac, ep, to, pr, ba, le, lg) q a b c) v' → sy_D (nu, st, un, ua) v' → post 1 v')
    (h0 : lj_kept (mu, ju, ac, ep, to, pr, ba, le, lg) = false → ∀ v', sy_L (lj_wr (mu, ju, ac, ep, to, pr, ba, le, lg) q a b c) v' → sy_D (nu, st, un, ua) v' → post 0 v') : wpY_write post v (nI q) (nI a) (nI b) (qt_m c) := by
  obtain ⟨f_active, f_epoch, a_nodeUp, a_journalUp, a_masterUp, a_touch, a_log, a_many, a_promise, a_base, a_stamp, a_units, a_unit, a_sort, a_placeOf, a_client, a_rowLength, a_row, a_closedWith, a_stampOf⟩ := v
  obtain ⟨l1, l2, l3, l4, l5, l6, l7, l8, l9⟩ := hL
  obtain ⟨d1, d2, d3, d4⟩ := hD
  have key : ∀ m n i, i + m = 3 → m < n → ∀ (aI aN : Nat → Int32) (aG : Nat → Int64), lj_yI i to ju le lg (ep, q, a, b, c) aI aN aG → wY_write_6 post (nI q) (nI a) (nI b) (qt_m c) f_active f_epoch n (nI (rd_cn (fun j => to j && ju j) i)) (nI i) a_nodeUp a_journalUp a_masterUp aI aG aN a_promise a_base a_stamp a_units a_unit a_sort a_placeOf a_client a_rowLength a_row a_closedWith a_stampOf := by
    intro m
    induction m with
    | zero =>
      intro n i hi hn aI aN aG H
      obtain ⟨n, rfl⟩ : ∃ n', n = n' + 1 := ⟨n - 1, by omega⟩
      have e : i = 3 := by omega
      subst e
      have hcn := rd_cnL (fun j => to j && ju j) 3
      have hI3 : ∀ j, j < 3 → aI j = bo_p (to j && ju j) := by
        intro j hj
        have := H.1 j hj
        rw [if_pos hj] at this
        exact this
      have hN3 : ∀ j, j < 3 → aN j = nI (if (to j && ju j) = true then le j + 1 else le j) := by
        intro j hj
        have := H.2.1 j hj
        rw [lj_ifT hj] at this
        exact this
      have hC3 : ∀ j k, j < 3 → k < (if (to j && ju j) = true then le j + 1 else le j) → aG (1001 * j + k) = lN (qt_pk ((if (to j && ju j) = true then qt_uR (lg j) (le j) (ep, q, a, b, c) else lg j) k)) := by
        intro j k hj hk
        have := H.2.2 j k hj
        rw [lj_ifT hj] at this
        have e : (if (to j && ju j) = true then qt_uR (lg j) (le j) (ep, q, a, b, c) else lg j) k = if (to j && ju j) = true ∧ k = le j then (ep, q, a, b, c) else lg j k := by
          by_cases z : (to j && ju j) = true
          · rw [if_pos z]
            by_cases y : k = le j
            · rw [if_pos ⟨z, y⟩, y, qt_uRs]
            · rw [if_neg (fun w => y w.2), qt_uRn y]
          · rw [if_neg z, if_neg (fun w => z w.1)]
        rw [e]
        exact this hk
      refine br_t lb_t (cd_if ((nI_leI (a := 2) (by decide) (by omega)).trans lj_cnK) (fun z => ?_) (fun z => ?_))
      · have z2 := lj_cnK.mpr z
        refine br_f (fun y => ?_) (h1 z _ ⟨?_, l2, l3, l4, hI3, l6, l7, hN3, hC3⟩ ⟨d1, d2, d3, d4⟩)
        · have := (nI_leI (b := 1) (by omega) (by decide)).mp y
          omega
        · rw [if_pos z]; exact l1
      · have z2 : ¬ 2 ≤ rd_cn (fun j => to j && ju j) 3 := fun y => z (lj_cnK.mp y)
        have z' : lj_kp (fun j => to j && ju j) = false := by simpa using z
        refine br_t ((nI_leI (b := 1) (by omega) (by decide)).mpr (by omega)) (h0 z' _ ⟨?_, l2, l3, l4, hI3, l6, l7, hN3, hC3⟩ ⟨d1, d2, d3, d4⟩)
        rw [if_neg z]; rfl
    | succ m ih =>
      intro n i hi hn aI aN aG H
      obtain ⟨n, rfl⟩ : ∃ n', n = n' + 1 := ⟨n - 1, by omega⟩
      have hi3 : i < 3 := by omega
      have hv := vp_in_nI hi3 (by decide : 3 < 2 ^ 31)
      have hc : (nI i).toNatClampNeg = i := nI_clamp (by omega)
      have hIi : aI i = bo_p (to i) := by have := H.1 i hi3; rw [if_neg (by omega)] at this; exact this
      have hNi : aN i = nI (le i) := by
        have := H.2.1 i hi3
        have z : lj_n i to ju i = false := by unfold lj_n; simp
        rw [z] at this
        exact this
      have hle := hl3 i hi3
      have skip : (to i && ju i) = false → ∀ aI' : Nat → Int32, (∀ j, j ≠ i → aI' j = aI j) → aI' i = bo_p (to i && ju i) → wY_write_6 post (nI q) (nI a) (nI b) (qt_m c) f_active f_epoch n (nI (rd_cn (fun j => to j && ju j) i)) (nI (i + 1)) a_nodeUp a_journalUp a_masterUp aI' aG aN a_promise a_base a_stamp a_units a_unit a_sort a_placeOf a_client a_rowLength a_row a_closedWith a_stampOf := by
        intro hf aI' g1 g2
        have := ih n (i + 1) (by omega) (by omega) aI' aN aG (lj_yI0 H hi3 g1 g2 hf)
        rw [rd_cnF (f := fun j => to j && ju j) hf] at this
        exact this
      refine br_f (lb_f hi3) ⟨hv, cd_if (cd_p (l3 i hi3) (by omega)) (fun hu' => ?_) (fun hu => ?_)⟩
      · have hf : (to i && ju i) = false := by rw [hu']; cases to i <;> rfl
        have eI : upd aI i (vp_nar .boolean 0) i = bo_p (to i && ju i) := by rw [pk_us, hf]; rfl
        refine ⟨hv, nm_e ?_⟩
        rw [hc]
        exact ⟨hv, br_t (by rw [hc, pk_us]; rfl) (nm_r (nI_1 i) (skip hf _ (fun j hj => pk_un hj) eI))⟩
      · have hu' : ju i = true := by simpa using hu
        refine ⟨hv, cd_if (cd_p hIi (by omega)) (fun z => nm_r (nI_1 i) (skip (by rw [z]; rfl) aI (fun _ _ => rfl) (by rw [hIi, z]; rfl))) (fun z => ⟨hv, ?_⟩)⟩
        have z' : to i = true := by simpa using z
        have hf : (to i && ju i) = true := by rw [z', hu']; rfl
        rw [hc, hNi, nI_1, show 1001 * nI i + nI (le i) = nI (1001 * i + le i) from mu_l i 1001 (le i), show f_epoch = nI ep from l2, qt_pkW ho, show (nI (1001 * i + le i)).toNatClampNeg = 1001 * i + le i from nI_clamp (by omega)]
        have hvc := vp_in_nI (show 1001 * i + le i < 3003 by omega) (by decide)
        have := ih n (i + 1) (by omega) (by omega) _ _ _ (lj_yI1 H hi3 hl3 hf)
        rw [show f_epoch = nI ep from l2] at this
        exact ⟨hvc, nm_e ⟨hv, hv, nm_e (nm_r (rd_cnT (f := fun j => to j && ju j) hf) (nm_r (nI_1 i) this))⟩⟩
  refine ⟨4, key 3 4 0 (by omega) (by omega) _ _ _ ⟨?_, ?_, ?_⟩⟩
  · intro j hj
    rw [if_neg (by omega)]; exact l5 j hj
  · intro j hj
    rw [show lj_n 0 to ju j = false by unfold lj_n; simp]; exact l8 j hj
  · intro j k hj hk
    have e : lj_n 0 to ju j = false := by unfold lj_n; simp
    rw [e] at hk ⊢
    rw [if_neg (fun y => absurd y.1 (by decide))]
    exact l9 j k hj hk
end
end
section
/-! replica, journal, status -/
theorem ix_s {N : Nat} (hN : N < 2 ^ 31) (x : Int32) : x < 0 ∨ (¬ x < 0 ∧ nI N < x) ∨ ∃ j, j ≤ N ∧ x = nI j := by
  by_cases h : x < 0
  · exact Or.inl h
  · obtain ⟨j, hj, rfl⟩ := nI_of h
    by_cases h2 : j ≤ N
    · exact Or.inr (Or.inr ⟨j, h2, rfl⟩)
    · exact Or.inr (Or.inl ⟨h, nI_lt (by omega) hj⟩)
theorem ix_t2 {x y : Int32} {N n : Nat} {A B : Prop} (h : ix_c x N n) (hy : y = nI N) (hN : N < 2 ^ 31) (a : n < N → x = nI n → A) (b : n = N → B) : (x < 0 → B) ∧ (¬ x < 0 → (x < y → A) ∧ (¬ x < y → B)) := by
  subst hy
  rcases h with ⟨h1, rfl⟩ | ⟨rfl, h | ⟨h, h'⟩⟩
  · refine ⟨fun z => absurd z (nI_pos (by omega)), fun _ => ⟨fun _ => a h1 rfl, fun z => absurd (nI_lt h1 hN) z⟩⟩
  · exact ⟨fun _ => b rfl, fun z => absurd h z⟩
  · exact ⟨fun z => absurd z h', fun _ => ⟨fun z => absurd z (Int32.not_lt.mpr h), fun _ => b rfl⟩⟩
theorem rl_ep {k : Nat} {L : lj_L} {T : qt_T} (h : lj_iv k L T) (hk : k ≤ 2048) : lj_ep L ≤ 512 := by
  obtain ⟨mu, ju, ac, ep, to, pr, ba, le, lg⟩ := L
  have := h.1
  show ep ≤ 512
  omega
theorem rl_len {k : Nat} {L : lj_L} {T : qt_T} (h : lj_iv k L T) : lj_len L ≤ 1000 := by
  obtain ⟨mu, ju, ac, ep, to, pr, ba, le, lg⟩ := L
  exact (h.2.2.2.2.1 _ (lj_srcL to)).2.2.2
theorem rl_bd {k : Nat} {L : lj_L} {T : qt_T} {D : rd_D} (h : lj_iv k L T) (hk : k ≤ 2048) (hD : rd_iv L D) : rd_bd D := by
  obtain ⟨nu, st, un, ua⟩ := D
  have h1 := rl_ep h hk
  have h2 := rl_len h
  refine ⟨fun c hc => ?_, hD.2⟩
  have := hD.1 c hc
  split at this <;> omega
def rd_rv (st un : Nat → Nat) (d b : Nat) (w : Int32) : Int32 := if d < 5 ∧ b < 16 then (if st (16 * d + b) = 0 then -1 else if w = 0 then qt_m (st (16 * d + b)) else if w = 1 then nI (un (16 * d + b)) else -1) else -1
theorem xm_replica {nu : Nat → Bool} {st un : Nat → Nat} {ua : Nat → Int32} {u : SX} (hD : sx_D (nu, st, un, ua) u) {post : Int32 → Prop} {p q w : Int32} {d b : Nat} (hd : ix_c p 5 d) (hb : ix_c q 16 b) (hp : post (rd_rv st un d b w)) : wpX_replica post u p q w := by
  obtain ⟨f_active, f_epoch, a_dataNodeDown, a_journalDown, a_masterDown, a_inTouch, a_promise, a_base, a_logLength, a_logEpoch, a_logKind, a_logA, a_logB, a_logC, a_inodeState, a_inodePlace, a_inodeClient, a_closeUnits, a_rowLength, a_rowBlock, a_blockStamp, a_replicaHeld, a_replicaStamp, a_unitCount, a_unitValue⟩ := u
  unfold rd_rv at hp
  refine ix_t hd rfl (by decide) (fun d5 e => ?_) (fun e => ?_)
  · refine ix_t2 hb rfl (by decide) (fun b16 e' => ?_) (fun e' => ?_)
    · subst e e'
      have hc : 16 * d + b < 80 := by omega
      rw [if_pos ⟨d5, b16⟩] at hp
      refine nm_r (mu_r d 16 b) ⟨vp_in_nI hc (by decide), cd_if (xm_held hD.2.1 hc) (fun z => ?_) (fun z => cd_if Iff.rfl (fun y => ⟨vp_in_nI hc (by decide), ?_⟩) (fun y => cd_if Iff.rfl (fun x => ⟨vp_in_nI hc (by decide), ?_⟩) (fun x => ?_)))⟩
      · rw [if_pos z] at hp; exact hp
      · rw [if_neg z, if_pos y] at hp; rw [xm_stamp hD.2.2.1 hc z]; exact hp
      · rw [if_neg z, if_neg y, if_pos x] at hp; rw [nI_clamp (by omega), hD.2.2.2.1 _ hc]; exact hp
      · rw [if_neg z, if_neg y, if_neg x] at hp; exact hp
    · rw [if_neg (by omega)] at hp; exact hp
  · rw [if_neg (by omega)] at hp; exact hp
theorem ym_replica {nu : Nat → Bool} {st un : Nat → Nat} {ua : Nat → Int32} {v : SY} (hD : sy_D (nu, st, un, ua) v) (hbd : rd_bd (nu, st, un, ua)) {post : Int32 → Prop} {p q w : Int32} {d b : Nat} (hd : ix_c p 5 d) (hb : ix_c q 16 b) (hp : post (rd_rv st un d b w)) : wpY_replica post v p q w := by
  obtain ⟨f_active, f_epoch, a_nodeUp, a_journalUp, a_masterUp, a_touch, a_log, a_many, a_promise, a_base, a_stamp, a_units, a_unit, a_sort, a_placeOf, a_client, a_rowLength, a_row, a_closedWith, a_stampOf⟩ := v
  unfold wpY_replica
  unfold rd_rv at hp
  refine ym_in hd (by decide) rfl (fun d5 => br_f bo_1 ?_) (fun e => br_t rfl ?_)
  · refine ym_in hb (by decide) rfl (fun b16 => br_f bo_1 ?_) (fun e' => br_t rfl ?_)
    · have e := ix_i hd d5
      have e' := ix_i hb b16
      subst e e'
      have hc : 16 * d + b < 80 := by omega
      have hs := hbd.1 _ hc
      rw [if_pos ⟨d5, b16⟩] at hp
      have es : a_stamp (nI (16 * d + b)).toNatClampNeg = qt_m (st (16 * d + b)) := by rw [nI_clamp (by omega)]; exact hD.2.1 _ hc
      have eu : a_units (nI (16 * d + b)).toNatClampNeg = nI (un (16 * d + b)) := by rw [nI_clamp (by omega)]; exact hD.2.2.1 _ hc
      rw [show 16 * nI d + nI b = nI (16 * d + b) from mu_l d 16 b, es, eu]
      refine ⟨vp_in_nI hc (by decide), cd_if (qt_Nm (s := 0) (by omega) (by decide)) (fun z => cd_if Iff.rfl (fun y => ⟨vp_in_nI hc (by decide), ?_⟩) (fun y => cd_if Iff.rfl (fun x => ⟨vp_in_nI hc (by decide), ?_⟩) (fun x => ?_))) (fun z => ?_)⟩
      · rw [if_neg (by omega), if_pos y] at hp; exact hp
      · rw [if_neg (by omega), if_neg y, if_pos x] at hp; exact hp
      · rw [if_neg (by omega), if_neg y, if_neg x] at hp; exact hp
      · rw [if_pos (by omega)] at hp; exact hp
    · rw [if_neg (by omega)] at hp; exact hp
  · rw [if_neg (by omega)] at hp; exact hp
theorem i_vc_replica {k : Nat} {u : SX} {v : SY} (I : i_Rel k u v) (hk : k + 4 ≤ 2048) (v1 : Int32) (v2 : Int32) (v3 : Int32) : wpX_replica (fun r => wpY_replica (fun r' => r' = r ∧ i_Rel (k + 4) u v) v v1 v2 v3) u v1 v2 v3 := by
  have I' := i_up I
  obtain ⟨T, L, ⟨nu, st, un, ua⟩, h1, h2, h3, h4, h5, h6, h7, h8⟩ := I
  have hb := rl_bd h7 (by omega) h8
  obtain ⟨d, hd⟩ := ix_e v1 (N := 5) (by decide)
  obtain ⟨b, hb'⟩ := ix_e v2 (N := 16) (by decide)
  exact xm_replica h3 hd hb' (ym_replica h5 hb hd hb' ⟨rfl, I'⟩)
def lj_rv (r : qt_R) (w : Int32) : Int32 := if w = 0 then nI r.1 else if w = 1 then nI r.2.1 else if w = 2 then nI r.2.2.1 else if w = 3 then nI r.2.2.2.1 else if w = 4 then qt_m r.2.2.2.2 else -1
def lj_fv (n p t b w : Int32) : Int32 := if w = 0 then n else if w = 1 then p else if w = 2 then t else if w = 3 then b else -1
def lj_jv (to : Nat → Bool) (pr ba le : Nat → Nat) (lg : Nat → Nat → qt_R) (j : Nat) (k w : Int32) : Int32 :=
  if j < 3 then (if k = -1 then lj_fv (nI (le j)) (nI (pr j)) (bo_p (to j)) (nI (ba j)) w else if k < nI (ba j) then -1 else if k < nI (le j) then lj_rv (lg j k.toNatClampNeg) w else -1) else -1
theorem sw_n {w : Int32} {c : Nat} (h : w < 0) (hc : c < 2 ^ 31) : ¬ w = nI c := by
  intro z
  rw [z] at h
  exact nI_pos hc h
theorem sw_g {w : Int32} {c N : Nat} (h : nI N < w) (hc : c ≤ N) (hN : N < 2 ^ 31) : ¬ w = nI c := by
  intro z
  rw [z, nI_ltI hN (by omega)] at h
  omega
theorem xm_journalFact {mu ju : Nat → Bool} {ac ep : Nat} {to : Nat → Bool} {pr ba le : Nat → Nat} {lg : Nat → Nat → qt_R} {u : SX} (hL : sx_L (mu, ju, ac, ep, to, pr, ba, le, lg) u) {post : Int32 → Prop} {j : Nat} {w : Int32} (hj3 : j < 3) (hp : post (lj_fv (nI (le j)) (nI (pr j)) (bo_p (to j)) (nI (ba j)) w)) : wpX_journalFact post u (nI j) w := by
  obtain ⟨f_active, f_epoch, a_dataNodeDown, a_journalDown, a_masterDown, a_inTouch, a_promise, a_base, a_logLength, a_logEpoch, a_logKind, a_logA, a_logB, a_logC, a_inodeState, a_inodePlace, a_inodeClient, a_closeUnits, a_rowLength, a_rowBlock, a_blockStamp, a_replicaHeld, a_replicaStamp, a_unitCount, a_unitValue⟩ := u
  obtain ⟨l1, l2, l3, l4, l5, l6, l7, l8, l9⟩ := hL
  have hv := vp_in_nI hj3 (by decide : 3 < 2 ^ 31)
  have hc : (nI j).toNatClampNeg = j := nI_clamp (by omega)
  unfold lj_fv at hp
  rcases ix_s (N := 3) (by decide) w with z | ⟨z, z2⟩ | ⟨w, hw, rfl⟩
  · rw [if_neg (show ¬ w = 0 from sw_n (c := 0) z (by decide)), if_neg (show ¬ w = 1 from sw_n (c := 1) z (by decide)), if_neg (show ¬ w = 2 from sw_n (c := 2) z (by decide)), if_neg (show ¬ w = 3 from sw_n (c := 3) z (by decide))] at hp
    exact br_t z hp
  · rw [if_neg (show ¬ w = 0 from sw_g (c := 0) z2 (by decide) (by decide)), if_neg (show ¬ w = 1 from sw_g (c := 1) z2 (by decide) (by decide)), if_neg (show ¬ w = 2 from sw_g (c := 2) z2 (by decide) (by decide)), if_neg (show ¬ w = 3 from sw_g (c := 3) z2 (by decide) (by decide))] at hp
    exact br_f z (br_t z2 hp)
  · match w, hw with
    | 0, _ =>
      rw [if_pos (by decide), ← l8 j hj3, ← hc] at hp
      exact br_f (by decide) (br_f (by decide) (br_t rfl ⟨hv, hp⟩))
    | 1, _ =>
      rw [if_neg (by decide), if_pos (by decide), ← l6 j hj3, ← hc] at hp
      exact br_f (by decide) (br_f (by decide) (br_f (by decide) (br_t rfl ⟨hv, hp⟩)))
    | 2, _ =>
      rw [if_neg (by decide), if_neg (by decide), if_pos (by decide)] at hp
      refine br_f (by decide) (br_f (by decide) (br_f (by decide) (br_f (by decide) (br_t rfl ⟨hv, cd_if (cd_p (l5 j hj3) (by omega)) (fun y => ?_) (fun y => ?_)⟩))))
      · rw [y] at hp; exact hp
      · rw [show to j = true by simpa using y] at hp; exact hp
    | 3, _ =>
      rw [if_neg (by decide), if_neg (by decide), if_neg (by decide), if_pos (by decide), ← l7 j hj3, ← hc] at hp
      exact br_f (by decide) (br_f (by decide) (br_f (by decide) (br_f (by decide) (br_f (by decide) (br_t rfl ⟨hv, hp⟩)))))
theorem xm_recordFact {mu ju : Nat → Bool} {ac ep : Nat} {to : Nat → Bool} {pr ba le : Nat → Nat} {lg : Nat → Nat → qt_R} {u : SX} (hL : sx_L (mu, ju, ac, ep, to, pr, ba, le, lg) u) {post : Int32 → Prop} {j k : Nat} {w : Int32} (hj3 : j < 3) (hk : k < le j) (hl : le j ≤ 1000) (hp : post (lj_rv (lg j k) w)) : wpX_recordFact post u (nI (1000 * j + k)) w := by
  obtain ⟨f_active, f_epoch, a_dataNodeDown, a_journalDown, a_masterDown, a_inTouch, a_promise, a_base, a_logLength, a_logEpoch, a_logKind, a_logA, a_logB, a_logC, a_inodeState, a_inodePlace, a_inodeClient, a_closeUnits, a_rowLength, a_rowBlock, a_blockStamp, a_replicaHeld, a_replicaStamp, a_unitCount, a_unitValue⟩ := u
  obtain ⟨l1, l2, l3, l4, l5, l6, l7, l8, l9⟩ := hL
  obtain ⟨c1, c2, c3, c4, c5⟩ := l9 j k hj3 hk
  have hv := vp_in_nI (show 1000 * j + k < 3000 by omega) (by decide : 3000 < 2 ^ 31)
  have hc : (nI (1000 * j + k)).toNatClampNeg = 1000 * j + k := nI_clamp (by omega)
  unfold lj_rv at hp
  rcases ix_s (N := 4) (by decide) w with z | ⟨z, z2⟩ | ⟨w, hw, rfl⟩
  · rw [if_neg (show ¬ w = 0 from sw_n (c := 0) z (by decide)), if_neg (show ¬ w = 1 from sw_n (c := 1) z (by decide)), if_neg (show ¬ w = 2 from sw_n (c := 2) z (by decide)), if_neg (show ¬ w = 3 from sw_n (c := 3) z (by decide)), if_neg (show ¬ w = 4 from sw_n (c := 4) z (by decide))] at hp
    exact br_t z hp
  · rw [if_neg (show ¬ w = 0 from sw_g (c := 0) z2 (by decide) (by decide)), if_neg (show ¬ w = 1 from sw_g (c := 1) z2 (by decide) (by decide)), if_neg (show ¬ w = 2 from sw_g (c := 2) z2 (by decide) (by decide)), if_neg (show ¬ w = 3 from sw_g (c := 3) z2 (by decide) (by decide)), if_neg (show ¬ w = 4 from sw_g (c := 4) z2 (by decide) (by decide))] at hp
    exact br_f z (br_t z2 hp)
  · match w, hw with
    | 0, _ =>
      rw [if_pos (by decide), ← c1, ← hc] at hp
      exact br_f (by decide) (br_f (by decide) (br_t rfl ⟨hv, hp⟩))
    | 1, _ =>
      rw [if_neg (by decide), if_pos (by decide), ← c2, ← hc] at hp
      exact br_f (by decide) (br_f (by decide) (br_f (by decide) (br_t rfl ⟨hv, hp⟩)))
    | 2, _ =>
      rw [if_neg (by decide), if_neg (by decide), if_pos (by decide), ← c3, ← hc] at hp
      exact br_f (by decide) (br_f (by decide) (br_f (by decide) (br_f (by decide) (br_t rfl ⟨hv, hp⟩))))
    | 3, _ =>
      rw [if_neg (by decide), if_neg (by decide), if_neg (by decide), if_pos (by decide), ← c4, ← hc] at hp
      exact br_f (by decide) (br_f (by decide) (br_f (by decide) (br_f (by decide) (br_f (by decide) (br_t rfl ⟨hv, hp⟩)))))
    | 4, _ =>
      rw [if_neg (by decide), if_neg (by decide), if_neg (by decide), if_neg (by decide), if_pos (by decide), ← c5, ← hc] at hp
      exact br_f (by decide) (br_f (by decide) (br_f (by decide) (br_f (by decide) (br_f (by decide) (br_f (by decide) (br_t rfl ⟨hv, hp⟩))))))
theorem xm_journal {mu ju : Nat → Bool} {ac ep : Nat} {to : Nat → Bool} {pr ba le : Nat → Nat} {lg : Nat → Nat → qt_R} {u : SX} (hL : sx_L (mu, ju, ac, ep, to, pr, ba, le, lg) u) (hl : ∀ j, j < 3 → ba j ≤ le j ∧ le j ≤ 1000) {post : Int32 → Prop} {j : Nat} {p k w : Int32} (hj : ix_c p 3 j) (hp : post (lj_jv to pr ba le lg j k w)) : wpX_journal post u p k w := by
  obtain ⟨f_active, f_epoch, a_dataNodeDown, a_journalDown, a_masterDown, a_inTouch, a_promise, a_base, a_logLength, a_logEpoch, a_logKind, a_logA, a_logB, a_logC, a_inodeState, a_inodePlace, a_inodeClient, a_closeUnits, a_rowLength, a_rowBlock, a_blockStamp, a_replicaHeld, a_replicaStamp, a_unitCount, a_unitValue⟩ := u
  unfold lj_jv at hp
  refine ix_t2 hj rfl (by decide) (fun hj3 e => ?_) (fun e => ?_)
  · subst e
    rw [if_pos hj3] at hp
    obtain ⟨b1, b2⟩ := hl j hj3
    have hv := vp_in_nI hj3 (by decide : 3 < 2 ^ 31)
    have hc : (nI j).toNatClampNeg = j := nI_clamp (by omega)
    have eb : a_base (nI j).toNatClampNeg = nI (ba j) := by rw [hc]; exact hL.2.2.2.2.2.2.1 j hj3
    have el : a_logLength (nI j).toNatClampNeg = nI (le j) := by rw [hc]; exact hL.2.2.2.2.2.2.2.1 j hj3
    refine cd_if Iff.rfl (fun h => ?_) (fun h => ⟨hv, ?_⟩)
    · rw [if_pos h] at hp
      exact xm_journalFact (u := (f_active, f_epoch, a_dataNodeDown, a_journalDown, a_masterDown, a_inTouch, a_promise, a_base, a_logLength, a_logEpoch, a_logKind, a_logA, a_logB, a_logC, a_inodeState, a_inodePlace, a_inodeClient, a_closeUnits, a_rowLength, a_rowBlock, a_blockStamp, a_replicaHeld, a_replicaStamp, a_unitCount, a_unitValue)) hL hj3 hp
    · rw [if_neg h] at hp
      rw [eb, el]
      refine cd_if Iff.rfl (fun z => ?_) (fun z => ⟨hv, cd_if Iff.rfl (fun y => ?_) (fun y => ?_)⟩)
      · rw [if_pos z] at hp; exact hp
      · rw [if_neg z, if_pos y] at hp
        have hk0 : ¬ k < 0 := fun x => z (Int32.lt_of_lt_of_le x (nI_pos' (by omega)))
        obtain ⟨K, hK, rfl⟩ := nI_of hk0
        have hKl : K < le j := (nI_ltI (by omega) (by omega)).mp y
        rw [nI_clamp hK] at hp
        rw [show nI j * 1000 + nI K = nI (1000 * j + K) from mu_r j 1000 K]
        exact xm_recordFact (u := (f_active, f_epoch, a_dataNodeDown, a_journalDown, a_masterDown, a_inTouch, a_promise, a_base, a_logLength, a_logEpoch, a_logKind, a_logA, a_logB, a_logC, a_inodeState, a_inodePlace, a_inodeClient, a_closeUnits, a_rowLength, a_rowBlock, a_blockStamp, a_replicaHeld, a_replicaStamp, a_unitCount, a_unitValue)) hL hj3 hKl b2 hp
      · rw [if_neg z, if_neg y] at hp; exact hp
  · rw [if_neg (by omega)] at hp; exact hp
theorem ym_journal {mu ju : Nat → Bool} {ac ep : Nat} {to : Nat → Bool} {pr ba le : Nat → Nat} {lg : Nat → Nat → qt_R} {v : SY} (hL : sy_L (mu, ju, ac, ep, to, pr, ba, le, lg) v) (hl : ∀ j, j < 3 → qt_wf (lg j) (le j) ∧ le j ≤ 1000 ∧ ba j ≤ le j) {post : Int32 → Prop} {j : Nat} {p k w : Int32} (hj : ix_c p 3 j) (hp : post (lj_jv to pr ba le lg j k w)) : wpY_journal post v p k w := by
  obtain ⟨f_active, f_epoch, a_nodeUp, a_journalUp, a_masterUp, a_touch, a_log, a_many, a_promise, a_base, a_stamp, a_units, a_unit, a_sort, a_placeOf, a_client, a_rowLength, a_row, a_closedWith, a_stampOf⟩ := v
  unfold wpY_journal
  unfold lj_jv at hp
  obtain ⟨l1, l2, l3, l4, l5, l6, l7, l8, l9⟩ := hL
  refine ym_in hj (by decide) rfl (fun hj3 => br_f bo_1 ?_) (fun e => br_t rfl ?_)
  · have e := ix_i hj hj3
    subst e
    rw [if_pos hj3] at hp
    obtain ⟨hw, b2, b1⟩ := hl j hj3
    have hv := vp_in_nI hj3 (by decide : 3 < 2 ^ 31)
    have hc : (nI j).toNatClampNeg = j := nI_clamp (by omega)
    have eb : a_base (nI j).toNatClampNeg = nI (ba j) := by rw [hc]; exact l7 j hj3
    have el : a_many (nI j).toNatClampNeg = nI (le j) := by rw [hc]; exact l8 j hj3
    refine cd_if Iff.rfl (fun h => ?_) (fun h => ⟨hv, ?_⟩)
    · rw [if_pos h] at hp
      unfold lj_fv at hp
      rw [eb, el, hc, l6 j hj3]
      refine cd_if Iff.rfl (fun z0 => ⟨hv, ?_⟩) (fun z0 => cd_if Iff.rfl (fun z1 => ⟨hv, ?_⟩) (fun z1 => cd_if Iff.rfl (fun z2 => ⟨hv, ?_⟩) (fun z2 => cd_if Iff.rfl (fun z3 => ⟨hv, ?_⟩) (fun z3 => ?_))))
      · rw [if_pos z0] at hp; exact hp
      · rw [if_neg z0, if_pos z1] at hp; exact hp
      · rw [if_neg z0, if_neg z1, if_pos z2] at hp
        rw [l5 j hj3]
        refine cd_if bo_p0 (fun y => ?_) (fun y => ?_)
        · rw [y] at hp; exact hp
        · rw [show to j = true by simpa using y] at hp; exact hp
      · rw [if_neg z0, if_neg z1, if_neg z2, if_pos z3] at hp; exact hp
      · rw [if_neg z0, if_neg z1, if_neg z2, if_neg z3] at hp; exact hp
    · rw [if_neg h] at hp
      rw [eb, el]
      refine cd_if Iff.rfl (fun z => ?_) (fun z => ⟨hv, cd_if Iff.rfl (fun y => ?_) (fun y => ?_)⟩)
      · rw [if_pos z] at hp; exact hp
      · rw [if_neg z, if_pos y] at hp
        have hk0 : ¬ k < 0 := fun x => z (Int32.lt_of_lt_of_le x (nI_pos' (by omega)))
        obtain ⟨K, hK, rfl⟩ := nI_of hk0
        have hKl : K < le j := (nI_ltI (by omega) (by omega)).mp y
        rw [nI_clamp hK] at hp
        have hB := qt_okB (hw K hKl)
        rw [show 1001 * nI j + nI K = nI (1001 * j + K) from mu_l j 1001 K]
        refine ⟨vp_in_nI (by omega) (by decide), nm_r (e' := lN (qt_pk (lg j K))) (by rw [nI_clamp (by omega)]; exact l9 j K hj3 hKl) ?_⟩
        rw [qt_pkE hB, qt_pkK hB, qt_pkA hB, qt_pkB hB, qt_pkC hB]
        unfold lj_rv at hp
        rcases ix_s (N := 4) (by decide) w with z | ⟨z, z2⟩ | ⟨w, hw, rfl⟩
        · rw [if_neg (show ¬ w = 0 from sw_n (c := 0) z (by decide)), if_neg (show ¬ w = 1 from sw_n (c := 1) z (by decide)), if_neg (show ¬ w = 2 from sw_n (c := 2) z (by decide)), if_neg (show ¬ w = 3 from sw_n (c := 3) z (by decide)), if_neg (show ¬ w = 4 from sw_n (c := 4) z (by decide))] at hp
          exact br_t z hp
        · rw [if_neg (show ¬ w = 0 from sw_g (c := 0) z2 (by decide) (by decide)), if_neg (show ¬ w = 1 from sw_g (c := 1) z2 (by decide) (by decide)), if_neg (show ¬ w = 2 from sw_g (c := 2) z2 (by decide) (by decide)), if_neg (show ¬ w = 3 from sw_g (c := 3) z2 (by decide) (by decide)), if_neg (show ¬ w = 4 from sw_g (c := 4) z2 (by decide) (by decide))] at hp
          exact br_f z (br_t z2 hp)
        · match w, hw with
          | 0, _ =>
            rw [if_pos (by decide)] at hp
            exact br_f (by decide) (br_f (by decide) (br_t rfl hp))
          | 1, _ =>
            rw [if_neg (by decide), if_pos (by decide)] at hp
            exact br_f (by decide) (br_f (by decide) (br_f (by decide) (br_t rfl hp)))
          | 2, _ =>
            rw [if_neg (by decide), if_neg (by decide), if_pos (by decide)] at hp
            exact br_f (by decide) (br_f (by decide) (br_f (by decide) (br_f (by decide) (br_t rfl hp))))
          | 3, _ =>
            rw [if_neg (by decide), if_neg (by decide), if_neg (by decide), if_pos (by decide)] at hp
            exact br_f (by decide) (br_f (by decide) (br_f (by decide) (br_f (by decide) (br_f (by decide) (br_t rfl hp)))))
          | 4, _ =>
            rw [if_neg (by decide), if_neg (by decide), if_neg (by decide), if_neg (by decide), if_pos (by decide)] at hp
            exact br_f (by decide) (br_f (by decide) (br_f (by decide) (br_f (by decide) (br_f (by decide) (br_f (by decide) (br_t rfl hp))))))
      · rw [if_neg z, if_neg y] at hp; exact hp
  · rw [if_neg (by omega)] at hp; exact hp
theorem i_vc_journal {k : Nat} {u : SX} {v : SY} (I : i_Rel k u v) (hk : k + 4 ≤ 2048) (v1 : Int32) (v2 : Int32) (v3 : Int32) : wpX_journal (fun r => wpY_journal (fun r' => r' = r ∧ i_Rel (k + 4) u v) v v1 v2 v3) u v1 v2 v3 := by
  have I' := i_up I
  obtain ⟨T, ⟨mu, ju, ac, ep, to, pr, ba, le, lg⟩, D, h1, h2, h3, h4, h5, h6, h7, h8⟩ := I
  obtain ⟨j, hj⟩ := ix_e v1 (N := 3) (by decide)
  have i5 := h7.2.2.2.2.1
  exact xm_journal h2 (fun j hj => ⟨(i5 j hj).2.1, (i5 j hj).2.2.2⟩) hj (ym_journal h4 (fun j hj => ⟨(i5 j hj).1, (i5 j hj).2.2.2, (i5 j hj).2.1⟩) hj ⟨rfl, I'⟩)
end
section
/-! status, fold, power -/
def rd_sm (st : Nat → Nat) : Nat → Nat
  | 0 => 0
  | n + 1 => rd_sm st n + rd_ld st n 16
theorem xm_countReplicas {nu : Nat → Bool} {st un : Nat → Nat} {ua : Nat → Int32} {u : SX} (hD : sx_D (nu, st, un, ua) u) {post : Int32 → Prop} (hp : post (nI (rd_sm st 5))) : wpX_countReplicas post u := by
  obtain ⟨f_active, f_epoch, a_dataNodeDown, a_journalDown, a_masterDown, a_inTouch, a_promise, a_base, a_logLength, a_logEpoch, a_logKind, a_logA, a_logB, a_logC, a_inodeState, a_inodePlace, a_inodeClient, a_closeUnits, a_rowLength, a_rowBlock, a_blockStamp, a_replicaHeld, a_replicaStamp, a_unitCount, a_unitValue⟩ := u
  refine ⟨6, lq_f (fun n d s => wX_countReplicas_4 post f_active f_epoch a_dataNodeDown a_journalDown a_masterDown a_inTouch a_promise a_base a_logLength a_logEpoch a_logKind a_logA a_logB a_logC a_inodeState a_inodePlace a_inodeClient a_closeUnits a_rowLength a_rowBlock a_blockStamp a_replicaHeld a_replicaStamp a_unitCount a_unitValue n s (nI d)) 5 (fun d => nI (rd_sm st d)) (fun n => br_t lb_t hp) (fun n d hd H => ?_) 6 0 (by omega) (by omega)⟩
  exact br_f (lb_f hd) (xm_loadOf (u := (f_active, f_epoch, a_dataNodeDown, a_journalDown, a_masterDown, a_inTouch, a_promise, a_base, a_logLength, a_logEpoch, a_logKind, a_logA, a_logB, a_logC, a_inodeState, a_inodePlace, a_inodeClient, a_closeUnits, a_rowLength, a_rowBlock, a_blockStamp, a_replicaHeld, a_replicaStamp, a_unitCount, a_unitValue)) hD hd (nm_r (nI_add _ _) (nm_r (nI_1 d) H)))
section
variable {T : qt_T} {mu ju : Nat → Bool} {ac ep : Nat} {to : Nat → Bool} {pr ba le : Nat → Nat} {lg : Nat → Nat → qt_R} {nu : Nat → Bool} {st un : Nat → Nat} {ua : Nat → Int32}
/-- what status answers -/
def rl_sv (T : qt_T) (ac ep len : Nat) (st : Nat → Nat) (w : Int32) : Int32 :=
  if w = 0 then qt_m ac else if w = 1 then nI ep else if w = 3 then nI (rd_sm st 5) else if ac = 0 then -1 else if w = 2 then nI len else if w = 4 then nI (rd_cn (fun i => decide (qt_so T i ≠ 0)) 12) else -1
theorem xm_status {u : SX} (h : sx_T T u) (hI : qt_iv T) (hL : sx_L (mu, ju, ac, ep, to, pr, ba, le, lg) u) (hD : sx_D (nu, st, un, ua) u) (ha : ac ≤ 2) (h2 : 0 < ac → lj_two to) {post : Int32 → Prop} {w : Int32} (hp : post (rl_sv T ac ep (le (lj_src to)) st w)) : wpX_status post u w := by
  obtain ⟨f_active, f_epoch, a_dataNodeDown, a_journalDown, a_masterDown, a_inTouch, a_promise, a_base, a_logLength, a_logEpoch, a_logKind, a_logA, a_logB, a_logC, a_inodeState, a_inodePlace, a_inodeClient, a_closeUnits, a_rowLength, a_rowBlock, a_blockStamp, a_replicaHeld, a_replicaStamp, a_unitCount, a_unitValue⟩ := u
  have e1 : f_active = qt_m ac := hL.1
  have e2 : f_epoch = nI ep := hL.2.1
  unfold rl_sv at hp
  refine cd_if Iff.rfl (fun z => ?_) (fun z1 => cd_if Iff.rfl (fun z => ?_) (fun z3 => cd_if (show f_active = -1 ↔ ac = 0 by rw [e1, qt_m0E (by omega)]) (fun za => ?_) (fun za => ?_)))
  · subst z
    rw [if_neg (by decide), if_pos rfl, ← e2] at hp
    exact hp
  · subst z
    rw [if_neg (by decide), if_neg (by decide), if_pos rfl] at hp
    exact xm_countReplicas (u := (f_active, f_epoch, a_dataNodeDown, a_journalDown, a_masterDown, a_inTouch, a_promise, a_base, a_logLength, a_logEpoch, a_logKind, a_logA, a_logB, a_logC, a_inodeState, a_inodePlace, a_inodeClient, a_closeUnits, a_rowLength, a_rowBlock, a_blockStamp, a_replicaHeld, a_replicaStamp, a_unitCount, a_unitValue)) hD hp
  · by_cases z0 : w = 0
    · rw [if_pos z0, za, qt_m0] at hp; exact hp
    · rw [if_neg z0, if_neg z1, if_neg z3, if_pos za] at hp; exact hp
  · rcases ix_s (N := 4) (by decide) w with z | ⟨z, z2⟩ | ⟨w, hw, rfl⟩
    · rw [if_neg (show ¬ w = 0 from sw_n (c := 0) z (by decide)), if_neg z1, if_neg z3, if_neg za, if_neg (show ¬ w = 2 from sw_n (c := 2) z (by decide)), if_neg (show ¬ w = 4 from sw_n (c := 4) z (by decide))] at hp
      exact br_t z hp
    · rw [if_neg (show ¬ w = 0 from sw_g (c := 0) z2 (by decide) (by decide)), if_neg z1, if_neg z3, if_neg za, if_neg (show ¬ w = 2 from sw_g (c := 2) z2 (by decide) (by decide)), if_neg (show ¬ w = 4 from sw_g (c := 4) z2 (by decide) (by decide))] at hp
      exact br_f z (br_t z2 hp)
    · match w, hw with
      | 0, _ =>
        rw [if_pos (by decide), ← e1] at hp
        exact br_f (by decide) (br_f (by decide) (br_t rfl hp))
      | 1, _ => exact absurd rfl z1
      | 2, _ =>
        rw [if_neg (by decide), if_neg (by decide), if_neg (by decide), if_neg za, if_pos (by decide)] at hp
        exact br_f (by decide) (br_f (by decide) (br_f (by decide) (br_f (by decide) (br_t rfl (xm_sharedLength (u := (f_active, f_epoch, a_dataNodeDown, a_journalDown, a_masterDown, a_inTouch, a_promise, a_base, a_logLength, a_logEpoch, a_logKind, a_logA, a_logB, a_logC, a_inodeState, a_inodePlace, a_inodeClient, a_closeUnits, a_rowLength, a_rowBlock, a_blockStamp, a_replicaHeld, a_replicaStamp, a_unitCount, a_unitValue)) hL (h2 (by omega)) hp)))))
      | 3, _ => exact absurd rfl z3
      | 4, _ =>
        rw [if_neg (by decide), if_neg (by decide), if_neg (by decide), if_neg za, if_neg (by decide), if_pos (by decide)] at hp
        exact br_f (by decide) (br_f (by decide) (br_f (by decide) (br_f (by decide) (br_f (by decide) (br_f (by decide) (br_t rfl (xm_countInodes (u := (f_active, f_epoch, a_dataNodeDown, a_journalDown, a_masterDown, a_inTouch, a_promise, a_base, a_logLength, a_logEpoch, a_logKind, a_logA, a_logB, a_logC, a_inodeState, a_inodePlace, a_inodeClient, a_closeUnits, a_rowLength, a_rowBlock, a_blockStamp, a_replicaHeld, a_replicaStamp, a_unitCount, a_unitValue)) h hI hp)))))))
theorem ym_status {v : SY} (hI : qt_iv T) (hL : sy_L (mu, ju, ac, ep, to, pr, ba, le, lg) v) (hD : sy_D (nu, st, un, ua) v) (hb : rd_bd (nu, st, un, ua)) (ha : ac ≤ 2) (hw : ∀ j, j < 3 → qt_wf (lg j) (le j) ∧ le j ≤ 1000) (hT : 0 < ac → T = qt_ab (lg (lj_src to)) (le (lj_src to))) {post : Int32 → SY → Prop} {w : Int32} (hp : ∀ v', sy_L (mu, ju, ac, ep, to, pr, ba, le, lg) v' → sy_D (nu, st, un, ua) v' → post (rl_sv T ac ep (le (lj_src to)) st w) v') : wpY_status post v w := by
  obtain ⟨f_active, f_epoch, a_nodeUp, a_journalUp, a_masterUp, a_touch, a_log, a_many, a_promise, a_base, a_stamp, a_units, a_unit, a_sort, a_placeOf, a_client, a_rowLength, a_row, a_closedWith, a_stampOf⟩ := v
  have e1 : f_active = qt_m ac := hL.1
  have e2 : f_epoch = nI ep := hL.2.1
  have hp0 := hp (f_active, f_epoch, a_nodeUp, a_journalUp, a_masterUp, a_touch, a_log, a_many, a_promise, a_base, a_stamp, a_units, a_unit, a_sort, a_placeOf, a_client, a_rowLength, a_row, a_closedWith, a_stampOf) hL hD
  have hrest : 0 < ac → (w = 2 ∨ w = 4) → wY_status_73 post w f_active f_epoch a_nodeUp a_journalUp a_masterUp a_touch a_log a_many a_promise a_base a_stamp a_units a_unit a_sort a_placeOf a_client a_rowLength a_row a_closedWith a_stampOf := by
    intro ha0 hw24
    refine ym_tell (v := (f_active, f_epoch, a_nodeUp, a_journalUp, a_masterUp, a_touch, a_log, a_many, a_promise, a_base, a_stamp, a_units, a_unit, a_sort, a_placeOf, a_client, a_rowLength, a_row, a_closedWith, a_stampOf)) hL hD hw ?_
    rintro ⟨f_active, f_epoch, a_nodeUp, a_journalUp, a_masterUp, a_touch, a_log, a_many, a_promise, a_base, a_stamp, a_units, a_unit, a_sort, a_placeOf, a_client, a_rowLength, a_row, a_closedWith, a_stampOf⟩ gT gL gD
    have hp0 := hp (f_active, f_epoch, a_nodeUp, a_journalUp, a_masterUp, a_touch, a_log, a_many, a_promise, a_base, a_stamp, a_units, a_unit, a_sort, a_placeOf, a_client, a_rowLength, a_row, a_closedWith, a_stampOf) gL gD
    rw [← hT ha0] at gT
    refine ⟨13, lq_f (fun n d s => wY_status_81 post w f_active f_epoch a_nodeUp a_journalUp a_masterUp a_touch a_log a_many a_promise a_base a_stamp a_units a_unit a_sort a_placeOf a_client a_rowLength a_row a_closedWith a_stampOf n s (nI d)) 12 (fun d => nI (rd_cn (fun i => decide (qt_so T i ≠ 0)) d)) (fun n => br_t lb_t ?_) (fun n d hd H => ?_) 13 0 (by omega) (by omega)⟩
    · refine ym_source (v := (f_active, f_epoch, a_nodeUp, a_journalUp, a_masterUp, a_touch, a_log, a_many, a_promise, a_base, a_stamp, a_units, a_unit, a_sort, a_placeOf, a_client, a_rowLength, a_row, a_closedWith, a_stampOf)) gL ?_
      have hs := lj_srcL to
      unfold rl_sv at hp0
      rcases hw24 with rfl | rfl
      · rw [if_neg (by decide), if_neg (by decide), if_neg (by decide), if_neg (by omega), if_pos (by decide)] at hp0
        refine br_t rfl ⟨vp_in_nI hs (by decide), ?_⟩
        rw [nI_clamp (by omega), gL.2.2.2.2.2.2.2.1 _ hs]
        exact hp0
      · rw [if_neg (by decide), if_neg (by decide), if_neg (by decide), if_neg (by omega), if_neg (by decide), if_pos (by decide)] at hp0
        exact br_f (by decide) hp0
    · have hb3 := qt_iv3 hI d hd
      refine br_f (lb_f hd) ⟨vp_in_nI hd (by decide), cd_if (cd_e (c := 0) (qt_ag1 gT d hd) (by omega) (by omega) (by decide)) (fun z => nm_r (nI_1 d) ?_) (fun z => nm_r (rd_cnT (f := fun i => decide (qt_so T i ≠ 0)) (decide_eq_true z)) (nm_r (nI_1 d) H))⟩
      rw [← rd_cnF (f := fun i => decide (qt_so T i ≠ 0)) (decide_eq_false (fun y => y z))]
      exact H
  unfold rl_sv at hp0
  refine cd_if Iff.rfl (fun z0 => ?_) (fun z0 => cd_if Iff.rfl (fun z1 => ?_) (fun z1 => cd_if Iff.rfl (fun z3 => ?_) (fun z3 => cd_if (show f_active < 0 ↔ ac = 0 by rw [e1, qt_mZ (by omega)]) (fun za => ?_) (fun za => cd_if Iff.rfl (fun z2 => hrest (by omega) (Or.inl z2)) (fun z2 => cd_if Iff.rfl (fun z4 => hrest (by omega) (Or.inr z4)) (fun z4 => ?_))))))
  · rw [if_pos z0, ← e1] at hp0; exact hp0
  · rw [if_neg z0, if_pos z1, ← e2] at hp0; exact hp0
  · rw [if_neg z0, if_neg z1, if_pos z3] at hp0
    refine ym_load (v := (f_active, f_epoch, a_nodeUp, a_journalUp, a_masterUp, a_touch, a_log, a_many, a_promise, a_base, a_stamp, a_units, a_unit, a_sort, a_placeOf, a_client, a_rowLength, a_row, a_closedWith, a_stampOf)) hD hb (d := 0) (by decide) (ym_load (v := (f_active, f_epoch, a_nodeUp, a_journalUp, a_masterUp, a_touch, a_log, a_many, a_promise, a_base, a_stamp, a_units, a_unit, a_sort, a_placeOf, a_client, a_rowLength, a_row, a_closedWith, a_stampOf)) hD hb (d := 1) (by decide) (ym_load (v := (f_active, f_epoch, a_nodeUp, a_journalUp, a_masterUp, a_touch, a_log, a_many, a_promise, a_base, a_stamp, a_units, a_unit, a_sort, a_placeOf, a_client, a_rowLength, a_row, a_closedWith, a_stampOf)) hD hb (d := 2) (by decide) (ym_load (v := (f_active, f_epoch, a_nodeUp, a_journalUp, a_masterUp, a_touch, a_log, a_many, a_promise, a_base, a_stamp, a_units, a_unit, a_sort, a_placeOf, a_client, a_rowLength, a_row, a_closedWith, a_stampOf)) hD hb (d := 3) (by decide) (ym_load (v := (f_active, f_epoch, a_nodeUp, a_journalUp, a_masterUp, a_touch, a_log, a_many, a_promise, a_base, a_stamp, a_units, a_unit, a_sort, a_placeOf, a_client, a_rowLength, a_row, a_closedWith, a_stampOf)) hD hb (d := 4) (by decide) ?_))))
    rw [nI_add, nI_add, nI_add, nI_add]
    have e : rd_sm st 5 = rd_ld st 0 16 + rd_ld st 1 16 + rd_ld st 2 16 + rd_ld st 3 16 + rd_ld st 4 16 := by
      show 0 + rd_ld st 0 16 + rd_ld st 1 16 + rd_ld st 2 16 + rd_ld st 3 16 + rd_ld st 4 16 = _
      omega
    rw [e] at hp0
    exact hp0
  · rw [if_neg z0, if_neg z1, if_neg z3, if_pos za] at hp0; exact hp0
  · rw [if_neg z0, if_neg z1, if_neg z3, if_neg za, if_neg z2, if_neg z4] at hp0; exact hp0
end
theorem i_vc_status {k : Nat} {u : SX} {v : SY} (I : i_Rel k u v) (hk : k + 4 ≤ 2048) (v1 : Int32) : wpX_status (fun r => wpY_status (fun r' v' => r' = r ∧ i_Rel (k + 4) u v') v v1) u v1 := by
  obtain ⟨T, ⟨mu, ju, ac, ep, to, pr, ba, le, lg⟩, ⟨nu, st, un, ua⟩, h1, h2, h3, h4, h5, h6, h7, h8⟩ := I
  have hb := rl_bd h7 (by omega) h8
  have i5 := h7.2.2.2.2.1
  have i6 := h7.2.2.2.2.2
  exact xm_status h1 h6 h2 h3 h7.2.1 (fun z => (i6 z).1) (ym_status h6 h4 h5 hb h7.2.1 (fun j hj => ⟨(i5 j hj).1, (i5 j hj).2.2.2⟩) (fun z => (i6 z).2.2) (fun v' g1 g2 => ⟨rfl, T, _, _, h1, h2, h3, g1, g2, h6, lj_ivK (by omega) h7, h8⟩))
end
section
/-! fold, power -/
def bo_u (f : Nat → Bool) (k : Nat) (x : Bool) : Nat → Bool := fun j => if j = k then x else f j
theorem bo_us {f : Nat → Bool} {k : Nat} {x : Bool} : bo_u f k x k = x := if_pos rfl
theorem bo_un {f : Nat → Bool} {k j : Nat} {x : Bool} (h : j ≠ k) : bo_u f k x j = f j := if_neg h
section
variable {T : qt_T} {mu ju : Nat → Bool} {ac ep : Nat} {to : Nat → Bool} {pr ba le : Nat → Nat} {lg : Nat → Nat → qt_R} {nu : Nat → Bool} {st un : Nat → Nat} {ua : Nat → Int32}
theorem xm_swD {u : SX} (h : sx_T T u) (hL : sx_L (mu, ju, ac, ep, to, pr, ba, le, lg) u) (hD : sx_D (nu, st, un, ua) u) {post : Int32 → SX → Prop} {p : Int32} {n : Nat} {up : Bool} (hn : ix_c p 5 n) (h0 : ¬ (n < 5 ∧ nu n ≠ up) → post 0 u) (h1 : n < 5 → nu n ≠ up → ∀ u', sx_T T u' → sx_L (mu, ju, ac, ep, to, pr, ba, le, lg) u' → sx_D (bo_u nu n up, st, un, ua) u' → post 1 u') : wpX_switchPower__dataNodeDown post u 5 p (bo_p up) := by
  obtain ⟨f_active, f_epoch, a_dataNodeDown, a_journalDown, a_masterDown, a_inTouch, a_promise, a_base, a_logLength, a_logEpoch, a_logKind, a_logA, a_logB, a_logC, a_inodeState, a_inodePlace, a_inodeClient, a_closeUnits, a_rowLength, a_rowBlock, a_blockStamp, a_replicaHeld, a_replicaStamp, a_unitCount, a_unitValue⟩ := u
  obtain ⟨l1, l2, l3, l4, l5, l6, l7, l8, l9⟩ := hL
  obtain ⟨d1, d2, d3, d4, d5⟩ := hD
  have h' : qt_ag True T a_inodeState a_inodePlace a_inodeClient a_closeUnits a_rowLength a_rowBlock a_blockStamp := h
  refine ix_t hn rfl (by decide) (fun hlt e => ?_) (fun e => h0 (fun z => by have := z.1; omega))
  subst e
  have hv := vp_in_nI hlt (by decide : 5 < 2 ^ 31)
  have hc : (nI n).toNatClampNeg = n := nI_clamp (by omega)
  refine ⟨hv, cd_if (show a_dataNodeDown (nI n).toNatClampNeg = bo_p up ↔ nu n ≠ up by rw [hc, d1 n hlt]; cases nu n <;> cases up <;> decide) (fun z => ?_) (fun z => h0 (fun y => z y.2))⟩
  have hu : ∀ j, j < 5 → upd a_dataNodeDown n (bo_n up) j = bo_n (bo_u nu n up j) := by
    intro j hj
    by_cases y : j = n
    · subst y; rw [pk_us, bo_us]
    · rw [pk_un y, bo_un y]; exact d1 j hj
  cases up with
  | false =>
    refine br_t rfl ⟨hv, nm_e ?_⟩
    rw [hc]
    exact h1 hlt z _ h' ⟨l1, l2, l3, l4, l5, l6, l7, l8, l9⟩ ⟨hu, d2, d3, d4, d5⟩
  | true =>
    refine br_f (by decide) ⟨hv, nm_e ?_⟩
    rw [hc]
    exact h1 hlt z _ h' ⟨l1, l2, l3, l4, l5, l6, l7, l8, l9⟩ ⟨hu, d2, d3, d4, d5⟩
theorem xm_swJ {u : SX} (h : sx_T T u) (hL : sx_L (mu, ju, ac, ep, to, pr, ba, le, lg) u) (hD : sx_D (nu, st, un, ua) u) {post : Int32 → SX → Prop} {p : Int32} {n : Nat} {up : Bool} (hn : ix_c p 3 n) (h0 : ¬ (n < 3 ∧ ju n ≠ up) → post 0 u) (h1 : n < 3 → ju n ≠ up → ∀ u', sx_T T u' → sx_L (mu, bo_u ju n up, ac, ep, to, pr, ba, le, lg) u' → sx_D (nu, st, un, ua) u' → post 1 u') : wpX_switchPower__journalDown post u 3 p (bo_p up) := by
  obtain ⟨f_active, f_epoch, a_dataNodeDown, a_journalDown, a_masterDown, a_inTouch, a_promise, a_base, a_logLength, a_logEpoch, a_logKind, a_logA, a_logB, a_logC, a_inodeState, a_inodePlace, a_inodeClient, a_closeUnits, a_rowLength, a_rowBlock, a_blockStamp, a_replicaHeld, a_replicaStamp, a_unitCount, a_unitValue⟩ := u
  obtain ⟨l1, l2, l3, l4, l5, l6, l7, l8, l9⟩ := hL
  obtain ⟨d1, d2, d3, d4, d5⟩ := hD
  have h' : qt_ag True T a_inodeState a_inodePlace a_inodeClient a_closeUnits a_rowLength a_rowBlock a_blockStamp := h
  refine ix_t hn rfl (by decide) (fun hlt e => ?_) (fun e => h0 (fun z => by have := z.1; omega))
  subst e
  have hv := vp_in_nI hlt (by decide : 3 < 2 ^ 31)
  have hc : (nI n).toNatClampNeg = n := nI_clamp (by omega)
  refine ⟨hv, cd_if (show a_journalDown (nI n).toNatClampNeg = bo_p up ↔ ju n ≠ up by rw [hc, l3 n hlt]; cases ju n <;> cases up <;> decide) (fun z => ?_) (fun z => h0 (fun y => z y.2))⟩
  have hu : ∀ j, j < 3 → upd a_journalDown n (bo_n up) j = bo_n (bo_u ju n up j) := by
    intro j hj
    by_cases y : j = n
    · subst y; rw [pk_us, bo_us]
    · rw [pk_un y, bo_un y]; exact l3 j hj
  cases up with
  | false =>
    refine br_t rfl ⟨hv, nm_e ?_⟩
    rw [hc]
    exact h1 hlt z _ h' ⟨l1, l2, hu, l4, l5, l6, l7, l8, l9⟩ ⟨d1, d2, d3, d4, d5⟩
  | true =>
    refine br_f (by decide) ⟨hv, nm_e ?_⟩
    rw [hc]
    exact h1 hlt z _ h' ⟨l1, l2, hu, l4, l5, l6, l7, l8, l9⟩ ⟨d1, d2, d3, d4, d5⟩
theorem xm_swM {u : SX} (h : sx_T T u) (hL : sx_L (mu, ju, ac, ep, to, pr, ba, le, lg) u) (hD : sx_D (nu, st, un, ua) u) {post : Int32 → SX → Prop} {p : Int32} {n : Nat} {up : Bool} (hn : ix_c p 2 n) (h0 : ¬ (n < 2 ∧ mu n ≠ up) → post 0 u) (h1 : n < 2 → mu n ≠ up → ∀ u', sx_T T u' → sx_L (bo_u mu n up, ju, ac, ep, to, pr, ba, le, lg) u' → sx_D (nu, st, un, ua) u' → post 1 u') : wpX_switchPower__masterDown post u 2 p (bo_p up) := by
  obtain ⟨f_active, f_epoch, a_dataNodeDown, a_journalDown, a_masterDown, a_inTouch, a_promise, a_base, a_logLength, a_logEpoch, a_logKind, a_logA, a_logB, a_logC, a_inodeState, a_inodePlace, a_inodeClient, a_closeUnits, a_rowLength, a_rowBlock, a_blockStamp, a_replicaHeld, a_replicaStamp, a_unitCount, a_unitValue⟩ := u
  obtain ⟨l1, l2, l3, l4, l5, l6, l7, l8, l9⟩ := hL
  obtain ⟨d1, d2, d3, d4, d5⟩ := hD
  have h' : qt_ag True T a_inodeState a_inodePlace a_inodeClient a_closeUnits a_rowLength a_rowBlock a_blockStamp := h
  refine ix_t hn rfl (by decide) (fun hlt e => ?_) (fun e => h0 (fun z => by have := z.1; omega))
  subst e
  have hv := vp_in_nI hlt (by decide : 2 < 2 ^ 31)
  have hc : (nI n).toNatClampNeg = n := nI_clamp (by omega)
  refine ⟨hv, cd_if (show a_masterDown (nI n).toNatClampNeg = bo_p up ↔ mu n ≠ up by rw [hc, l4 n hlt]; cases mu n <;> cases up <;> decide) (fun z => ?_) (fun z => h0 (fun y => z y.2))⟩
  have hu : ∀ j, j < 2 → upd a_masterDown n (bo_n up) j = bo_n (bo_u mu n up j) := by
    intro j hj
    by_cases y : j = n
    · subst y; rw [pk_us, bo_us]
    · rw [pk_un y, bo_un y]; exact l4 j hj
  cases up with
  | false =>
    refine br_t rfl ⟨hv, nm_e ?_⟩
    rw [hc]
    exact h1 hlt z _ h' ⟨l1, l2, l3, hu, l5, l6, l7, l8, l9⟩ ⟨d1, d2, d3, d4, d5⟩
  | true =>
    refine br_f (by decide) ⟨hv, nm_e ?_⟩
    rw [hc]
    exact h1 hlt z _ h' ⟨l1, l2, l3, hu, l5, l6, l7, l8, l9⟩ ⟨d1, d2, d3, d4, d5⟩
/-- what power does: the masters' part -/
def lj_pm (L : lj_L) (n : Nat) (up : Bool) : lj_L :=
  match L with
  | (mu, ju, ac, ep, to, pr, ba, le, lg) => (bo_u mu n up, ju, (if up = false ∧ ac = n + 1 then 0 else ac), ep, to, pr, ba, le, lg)
theorem bo_nar (x : Bool) : narrow .boolean (.int (bo_p x)) = .int (bo_p x) := by cases x <;> rfl
theorem xm_power {u : SX} (h : sx_T T u) (hL : sx_L (mu, ju, ac, ep, to, pr, ba, le, lg) u) (hD : sx_D (nu, st, un, ua) u) (ha : ac ≤ 2) {post : Int32 → SX → Prop} {s p : Int32} {n0 n1 n2 : Nat} {up : Bool} (hn0 : ix_c p 5 n0) (hn1 : ix_c p 3 n1) (hn2 : ix_c p 2 n2)
    (h0 : ¬ (s = 0 ∧ n0 < 5 ∧ nu n0 ≠ up) → ¬ (s = 1 ∧ n1 < 3 ∧ ju n1 ≠ up) → ¬ (s = 2 ∧ n2 < 2 ∧ mu n2 ≠ up) → post 0 u)
    (k0 : s = 0 → n0 < 5 → nu n0 ≠ up → ∀ u', sx_T T u' → sx_L (mu, ju, ac, ep, to, pr, ba, le, lg) u' → sx_D (bo_u nu n0 up, st, un, ua) u' → post 1 u')
    (k1 : s = 1 → n1 < 3 → ju n1 ≠ up → ∀ u', sx_T T u' → sx_L (mu, bo_u ju n1 up, ac, ep, to, pr, ba, le, lg) u' → sx_D (nu, st, un, ua) u' → post 1 u')
    (k2 : s = 2 → n2 < 2 → mu n2 ≠ up → ∀ u', sx_T T u' → sx_L (lj_pm (mu, ju, ac, ep, to, pr, ba, le, lg) n2 up) u' → sx_D (nu, st, un, ua) u' → post 1 u') : wpX_power post u s p (bo_p up) := by
  obtain ⟨f_active, f_epoch, a_dataNodeDown, a_journalDown, a_masterDown, a_inTouch, a_promise, a_base, a_logLength, a_logEpoch, a_logKind, a_logA, a_logB, a_logC, a_inodeState, a_inodePlace, a_inodeClient, a_closeUnits, a_rowLength, a_rowBlock, a_blockStamp, a_replicaHeld, a_replicaStamp, a_unitCount, a_unitValue⟩ := u
  refine cd_if Iff.rfl (fun z0 => ?_) (fun z0 => cd_if Iff.rfl (fun z1 => ?_) (fun z1 => cd_if Iff.rfl (fun z2 => ?_) (fun z2 => h0 (fun y => z0 y.1) (fun y => z1 y.1) (fun y => z2 y.1))))
  · subst z0
    refine xm_swD (u := (f_active, f_epoch, a_dataNodeDown, a_journalDown, a_masterDown, a_inTouch, a_promise, a_base, a_logLength, a_logEpoch, a_logKind, a_logA, a_logB, a_logC, a_inodeState, a_inodePlace, a_inodeClient, a_closeUnits, a_rowLength, a_rowBlock, a_blockStamp, a_replicaHeld, a_replicaStamp, a_unitCount, a_unitValue)) h hL hD hn0 (fun z => ⟨rfl, h0 (fun y => z y.2) (fun y => absurd y.1 (by decide)) (fun y => absurd y.1 (by decide))⟩) (fun a b => ?_)
    rintro ⟨f_active, f_epoch, a_dataNodeDown, a_journalDown, a_masterDown, a_inTouch, a_promise, a_base, a_logLength, a_logEpoch, a_logKind, a_logA, a_logB, a_logC, a_inodeState, a_inodePlace, a_inodeClient, a_closeUnits, a_rowLength, a_rowBlock, a_blockStamp, a_replicaHeld, a_replicaStamp, a_unitCount, a_unitValue⟩ g1 g2 g3
    exact ⟨rfl, k0 rfl a b _ g1 g2 g3⟩
  · subst z1
    refine xm_swJ (u := (f_active, f_epoch, a_dataNodeDown, a_journalDown, a_masterDown, a_inTouch, a_promise, a_base, a_logLength, a_logEpoch, a_logKind, a_logA, a_logB, a_logC, a_inodeState, a_inodePlace, a_inodeClient, a_closeUnits, a_rowLength, a_rowBlock, a_blockStamp, a_replicaHeld, a_replicaStamp, a_unitCount, a_unitValue)) h hL hD hn1 (fun z => ⟨rfl, h0 (fun y => absurd y.1 (by decide)) (fun y => z y.2) (fun y => absurd y.1 (by decide))⟩) (fun a b => ?_)
    rintro ⟨f_active, f_epoch, a_dataNodeDown, a_journalDown, a_masterDown, a_inTouch, a_promise, a_base, a_logLength, a_logEpoch, a_logKind, a_logA, a_logB, a_logC, a_inodeState, a_inodePlace, a_inodeClient, a_closeUnits, a_rowLength, a_rowBlock, a_blockStamp, a_replicaHeld, a_replicaStamp, a_unitCount, a_unitValue⟩ g1 g2 g3
    exact ⟨rfl, k1 rfl a b _ g1 g2 g3⟩
  · subst z2
    refine xm_swM (u := (f_active, f_epoch, a_dataNodeDown, a_journalDown, a_masterDown, a_inTouch, a_promise, a_base, a_logLength, a_logEpoch, a_logKind, a_logA, a_logB, a_logC, a_inodeState, a_inodePlace, a_inodeClient, a_closeUnits, a_rowLength, a_rowBlock, a_blockStamp, a_replicaHeld, a_replicaStamp, a_unitCount, a_unitValue)) h hL hD hn2 (fun z => br_t rfl (h0 (fun y => absurd y.1 (by decide)) (fun y => absurd y.1 (by decide)) (fun y => z y.2))) (fun a b => ?_)
    rintro ⟨f_active, f_epoch, a_dataNodeDown, a_journalDown, a_masterDown, a_inTouch, a_promise, a_base, a_logLength, a_logEpoch, a_logKind, a_logA, a_logB, a_logC, a_inodeState, a_inodePlace, a_inodeClient, a_closeUnits, a_rowLength, a_rowBlock, a_blockStamp, a_replicaHeld, a_replicaStamp, a_unitCount, a_unitValue⟩ g1 g2 g3
    have e := ix_i hn2 a
    subst e
    have g1' : qt_ag True T a_inodeState a_inodePlace a_inodeClient a_closeUnits a_rowLength a_rowBlock a_blockStamp := g1
    obtain ⟨d1, d2, d3, d4, d5⟩ := g3
    obtain ⟨l1, l2, l3, l4, l5, l6, l7, l8, l9⟩ := g2
    have ea : f_active = nI n2 ↔ ac = n2 + 1 := by rw [show f_active = qt_m ac from l1, qt_mEn (by omega) (by omega)]
    refine br_f bo_1 ?_
    cases up with
    | false =>
      refine br_t rfl (cd_if ea (fun y => k2 rfl a b _ g1' ⟨?_, l2, l3, l4, l5, l6, l7, l8, l9⟩ ⟨d1, d2, d3, d4, d5⟩) (fun y => k2 rfl a b _ g1' ⟨?_, l2, l3, l4, l5, l6, l7, l8, l9⟩ ⟨d1, d2, d3, d4, d5⟩))
      · rw [if_pos ⟨rfl, y⟩, qt_m0]
      · rw [if_neg (fun w => y w.2)]; exact l1
    | true =>
      refine br_f (by decide) (k2 rfl a b _ g1' ⟨?_, l2, l3, l4, l5, l6, l7, l8, l9⟩ ⟨d1, d2, d3, d4, d5⟩)
      rw [if_neg (fun w => absurd w.1 (by decide))]; exact l1
theorem bo_pp {x y : Bool} : bo_p x = bo_p y ↔ x = y := by cases x <;> cases y <;> decide
theorem ym_power {v : SY} (hL : sy_L (mu, ju, ac, ep, to, pr, ba, le, lg) v) (hD : sy_D (nu, st, un, ua) v) (ha : ac ≤ 2) {post : Int32 → SY → Prop} {s p : Int32} {n0 n1 n2 : Nat} {up : Bool} (hn0 : ix_c p 5 n0) (hn1 : ix_c p 3 n1) (hn2 : ix_c p 2 n2)
    (h0 : ¬ (s = 0 ∧ n0 < 5 ∧ nu n0 ≠ up) → ¬ (s = 1 ∧ n1 < 3 ∧ ju n1 ≠ up) → ¬ (s = 2 ∧ n2 < 2 ∧ mu n2 ≠ up) → post 0 v)
    (k0 : s = 0 → n0 < 5 → nu n0 ≠ up → ∀ v', sy_L (mu, ju, ac, ep, to, pr, ba, le, lg) v' → sy_D (bo_u nu n0 up, st, un, ua) v' → post 1 v')
    (k1 : s = 1 → n1 < 3 → ju n1 ≠ up → ∀ v', sy_L (mu, bo_u ju n1 up, ac, ep, to, pr, ba, le, lg) v' → sy_D (nu, st, un, ua) v' → post 1 v')
    (k2 : s = 2 → n2 < 2 → mu n2 ≠ up → ∀ v', sy_L (lj_pm (mu, ju, ac, ep, to, pr, ba, le, lg) n2 up) v' → sy_D (nu, st, un, ua) v' → post 1 v') : wpY_power post v s p (bo_p up) := by
  obtain ⟨f_active, f_epoch, a_nodeUp, a_journalUp, a_masterUp, a_touch, a_log, a_many, a_promise, a_base, a_stamp, a_units, a_unit, a_sort, a_placeOf, a_client, a_rowLength, a_row, a_closedWith, a_stampOf⟩ := v
  obtain ⟨l1, l2, l3, l4, l5, l6, l7, l8, l9⟩ := hL
  obtain ⟨d1, d2, d3, d4⟩ := hD
  have s63 : ¬ (s = 0 ∧ n0 < 5 ∧ nu n0 ≠ up) → ¬ (s = 1 ∧ n1 < 3 ∧ ju n1 ≠ up) → wY_power_63 post s p (bo_p up) f_active f_epoch a_nodeUp a_journalUp a_masterUp a_touch a_log a_many a_promise a_base a_stamp a_units a_unit a_sort a_placeOf a_client a_rowLength a_row a_closedWith a_stampOf := by
    intro y0 y1
    refine cd_if Iff.rfl (fun z2 => ym_in hn2 (by decide) rfl (fun hlt => br_f bo_1 ?_) (fun e => br_t rfl (h0 y0 y1 (fun y => by omega)))) (fun z2 => h0 y0 y1 (fun y => z2 y.1))
    have e := ix_i hn2 hlt
    subst e
    have hv := vp_in_nI hlt (by decide : 2 < 2 ^ 31)
    have hc : (nI n2).toNatClampNeg = n2 := nI_clamp (by omega)
    refine ⟨hv, cd_if (show a_masterUp (nI n2).toNatClampNeg = bo_p up ↔ mu n2 = up by rw [hc, l4 n2 hlt, bo_pp]) (fun z => h0 y0 y1 (fun y => y.2.2 z)) (fun z => ⟨hv, nm_e ?_⟩)⟩
    rw [hc, bo_vp]
    have hu : ∀ j, j < 2 → upd a_masterUp n2 (bo_p up) j = bo_p (bo_u mu n2 up j) := by
      intro j hj
      by_cases y : j = n2
      · subst y; rw [pk_us, bo_us]
      · rw [pk_un y, bo_un y]; exact l4 j hj
    have ea : f_active = nI n2 ↔ ac = n2 + 1 := by rw [show f_active = qt_m ac from l1, qt_mEn (by omega) (by omega)]
    cases up with
    | false =>
      refine br_t rfl (cd_if ea (fun y => k2 z2 hlt z _ ⟨?_, l2, l3, hu, l5, l6, l7, l8, l9⟩ ⟨d1, d2, d3, d4⟩) (fun y => k2 z2 hlt z _ ⟨?_, l2, l3, hu, l5, l6, l7, l8, l9⟩ ⟨d1, d2, d3, d4⟩))
      · rw [if_pos ⟨rfl, y⟩, qt_m0]
      · rw [if_neg (fun w => y w.2)]; exact l1
    | true =>
      refine br_f (by decide) (k2 z2 hlt z _ ⟨?_, l2, l3, hu, l5, l6, l7, l8, l9⟩ ⟨d1, d2, d3, d4⟩)
      rw [if_neg (fun w => absurd w.1 (by decide))]; exact l1
  have s31 : ¬ (s = 0 ∧ n0 < 5 ∧ nu n0 ≠ up) → wY_power_31 post s p (bo_p up) f_active f_epoch a_nodeUp a_journalUp a_masterUp a_touch a_log a_many a_promise a_base a_stamp a_units a_unit a_sort a_placeOf a_client a_rowLength a_row a_closedWith a_stampOf := by
    intro y0
    refine cd_if Iff.rfl (fun z1 => ym_in hn1 (by decide) rfl (fun hlt => br_f bo_1 ?_) (fun e => br_t rfl (s63 y0 (fun y => by omega)))) (fun z1 => s63 y0 (fun y => z1 y.1))
    have e := ix_i hn1 hlt
    subst e
    have hv := vp_in_nI hlt (by decide : 3 < 2 ^ 31)
    have hc : (nI n1).toNatClampNeg = n1 := nI_clamp (by omega)
    refine ⟨hv, cd_if (show a_journalUp (nI n1).toNatClampNeg = bo_p up ↔ ju n1 = up by rw [hc, l3 n1 hlt, bo_pp]) (fun z => s63 y0 (fun y => y.2.2 z)) (fun z => ⟨hv, nm_e ?_⟩)⟩
    rw [hc, bo_vp]
    refine k1 z1 hlt z _ ⟨l1, l2, ?_, l4, l5, l6, l7, l8, l9⟩ ⟨d1, d2, d3, d4⟩
    intro j hj
    by_cases y : j = n1
    · subst y; rw [pk_us, bo_us]
    · rw [pk_un y, bo_un y]; exact l3 j hj
  refine cd_if Iff.rfl (fun z0 => ym_in hn0 (by decide) rfl (fun hlt => br_f bo_1 ?_) (fun e => br_t rfl (s31 (fun y => by omega)))) (fun z0 => s31 (fun y => z0 y.1))
  have e := ix_i hn0 hlt
  subst e
  have hv := vp_in_nI hlt (by decide : 5 < 2 ^ 31)
  have hc : (nI n0).toNatClampNeg = n0 := nI_clamp (by omega)
  refine ⟨hv, cd_if (show a_nodeUp (nI n0).toNatClampNeg = bo_p up ↔ nu n0 = up by rw [hc, d1 n0 hlt, bo_pp]) (fun z => s31 (fun y => y.2.2 z)) (fun z => ⟨hv, nm_e ?_⟩)⟩
  rw [hc, bo_vp]
  refine k0 z0 hlt z _ ⟨l1, l2, l3, l4, l5, l6, l7, l8, l9⟩ ⟨?_, d2, d3, d4⟩
  intro j hj
  by_cases y : j = n0
  · subst y; rw [pk_us, bo_us]
  · rw [pk_un y, bo_un y]; exact d1 j hj
end
theorem i_vc_power {k : Nat} {u : SX} {v : SY} (I : i_Rel k u v) (hk : k + 4 ≤ 2048) (v1 : Int32) (v2 : Int32) (v3 : Int32) : wpX_power (fun r u' => wpY_power (fun r' v' => r' = r ∧ i_Rel (k + 4) u' v') v v1 v2 (lw_bz v3)) u v1 v2 (lw_bz v3) := by
  have I' := i_up I
  obtain ⟨T, ⟨mu, ju, ac, ep, to, pr, ba, le, lg⟩, ⟨nu, st, un, ua⟩, h1, h2, h3, h4, h5, h6, h7, h8⟩ := I
  have hlen := rl_len h7
  obtain ⟨i1, i2, i3, i4, i5, i6⟩ := h7
  obtain ⟨e1, e2⟩ := h8
  obtain ⟨up, hup⟩ := bo_z v3
  rw [hup]
  obtain ⟨n0, hn0⟩ := ix_e v2 (N := 5) (by decide)
  obtain ⟨n1, hn1⟩ := ix_e v2 (N := 3) (by decide)
  obtain ⟨n2, hn2⟩ := ix_e v2 (N := 2) (by decide)
  refine xm_power h1 h2 h3 i2 hn0 hn1 hn2 (fun a b c => ?_) (fun a b c u' g1 g2 g3 => ?_) (fun a b c u' g1 g2 g3 => ?_) (fun a b c u' g1 g2 g3 => ?_)
  · exact ym_power h4 h5 i2 hn0 hn1 hn2 (fun _ _ _ => ⟨rfl, I'⟩) (fun x y z => absurd ⟨x, y, z⟩ a) (fun x y z => absurd ⟨x, y, z⟩ b) (fun x y z => absurd ⟨x, y, z⟩ c)
  · refine ym_power h4 h5 i2 hn0 hn1 hn2 (fun x _ _ => absurd ⟨a, b, c⟩ x) (fun _ _ _ v' m1 m2 => ⟨rfl, T, _, _, g1, g2, g3, m1, m2, h6, ⟨by omega, i2, i3, i4, i5, i6⟩, ⟨e1, e2⟩⟩) (fun x _ _ => by subst a; exact absurd x (by decide)) (fun x _ _ => by subst a; exact absurd x (by decide))
  · refine ym_power h4 h5 i2 hn0 hn1 hn2 (fun _ x _ => absurd ⟨a, b, c⟩ x) (fun x _ _ => by subst a; exact absurd x (by decide)) (fun _ _ _ v' m1 m2 => ⟨rfl, T, _, _, g1, g2, g3, m1, m2, h6, ⟨by omega, i2, i3, i4, i5, i6⟩, ⟨e1, e2⟩⟩) (fun x _ _ => by subst a; exact absurd x (by decide))
  · refine ym_power h4 h5 i2 hn0 hn1 hn2 (fun _ _ x => absurd ⟨a, b, c⟩ x) (fun x _ _ => by subst a; exact absurd x (by decide)) (fun x _ _ => by subst a; exact absurd x (by decide)) (fun _ _ _ v' m1 m2 => ⟨rfl, T, _, _, g1, g2, g3, m1, m2, h6, ⟨by omega, ?_, i3, i4, i5, ?_⟩, ⟨?_, e2⟩⟩)
    · split <;> omega
    · intro hp
      have hp' : 0 < (if up = false ∧ ac = n2 + 1 then 0 else ac) := hp
      split at hp'
      · omega
      · exact i6 hp'
    · intro c hc
      have hc1 := e1 c hc
      show st c ≤ if 0 < (if up = false ∧ ac = n2 + 1 then 0 else ac) then 2048 * ep + le (lj_src to) else 2048 * (ep + 1)
      have hc2 : st c ≤ if 0 < ac then 2048 * ep + le (lj_src to) else 2048 * (ep + 1) := hc1
      have hl2 : le (lj_src to) ≤ 1000 := hlen
      by_cases hh : up = false ∧ ac = n2 + 1
      · rw [if_pos hh, if_neg (by omega)]
        split at hc2 <;> omega
      · rw [if_neg hh]; exact hc2
end
section
/-! fold -/
section
variable {T : qt_T} {mu ju : Nat → Bool} {ac ep : Nat} {to : Nat → Bool} {pr ba le : Nat → Nat} {lg : Nat → Nat → qt_R} {nu : Nat → Bool} {st un : Nat → Nat} {ua : Nat → Int32}
theorem lj_nI {n : Nat} {j : Nat} (h : j < n) : lj_n n to ju j = (to j && ju j) := by unfold lj_n; simp [h]
theorem xm_fold {u : SX} (h : sx_T T u) (hL : sx_L (mu, ju, ac, ep, to, pr, ba, le, lg) u) (hD : sx_D (nu, st, un, ua) u) (ha : ac ≤ 2) {post : Int32 → SX → Prop} (h0 : ac = 0 → post (-1) u) (h1 : 0 < ac → ∀ u', sx_T T u' → sx_L (lj_fo (mu, ju, ac, ep, to, pr, ba, le, lg)) u' → sx_D (nu, st, un, ua) u' → post (nI (rd_cn (fun j => to j && ju j) 3)) u') : wpX_fold post u := by
  obtain ⟨f_active, f_epoch, a_dataNodeDown, a_journalDown, a_masterDown, a_inTouch, a_promise, a_base, a_logLength, a_logEpoch, a_logKind, a_logA, a_logB, a_logC, a_inodeState, a_inodePlace, a_inodeClient, a_closeUnits, a_rowLength, a_rowBlock, a_blockStamp, a_replicaHeld, a_replicaStamp, a_unitCount, a_unitValue⟩ := u
  obtain ⟨l1, l2, l3, l4, l5, l6, l7, l8, l9⟩ := hL
  obtain ⟨d1, d2, d3, d4, d5⟩ := hD
  have h' : qt_ag True T a_inodeState a_inodePlace a_inodeClient a_closeUnits a_rowLength a_rowBlock a_blockStamp := h
  refine cd_if (show f_active = -1 ↔ ac = 0 by rw [show f_active = qt_m ac from l1, qt_m0E (by omega)]) h0 (fun za => ?_)
  have key : ∀ m n i, i + m = 3 → m < n → ∀ aB : Nat → Int32, (∀ j, j < 3 → aB j = nI (if lj_n i to ju j = true then le j else ba j)) → wX_fold_14 post f_active f_epoch n (nI (rd_cn (fun j => to j && ju j) i)) (nI i) a_dataNodeDown a_journalDown a_masterDown a_inTouch a_promise aB a_logLength a_logEpoch a_logKind a_logA a_logB a_logC a_inodeState a_inodePlace a_inodeClient a_closeUnits a_rowLength a_rowBlock a_blockStamp a_replicaHeld a_replicaStamp a_unitCount a_unitValue := by
    intro m
    induction m with
    | zero =>
      intro n i hi hn aB H
      obtain ⟨n, rfl⟩ : ∃ n', n = n' + 1 := ⟨n - 1, by omega⟩
      have e : i = 3 := by omega
      subst e
      refine br_t lb_t (h1 (by omega) _ h' ⟨l1, l2, l3, l4, l5, l6, ?_, l8, l9⟩ ⟨d1, d2, d3, d4, d5⟩)
      intro j hj
      have := H j hj
      rw [lj_ifT hj] at this
      exact this
    | succ m ih =>
      intro n i hi hn aB H
      obtain ⟨n, rfl⟩ : ∃ n', n = n' + 1 := ⟨n - 1, by omega⟩
      have hi3 : i < 3 := by omega
      have hv := vp_in_nI hi3 (by decide : 3 < 2 ^ 31)
      have hc : (nI i).toNatClampNeg = i := nI_clamp (by omega)
      have skip : (to i && ju i) = false → wX_fold_14 post f_active f_epoch n (nI (rd_cn (fun j => to j && ju j) i)) (nI (i + 1)) a_dataNodeDown a_journalDown a_masterDown a_inTouch a_promise aB a_logLength a_logEpoch a_logKind a_logA a_logB a_logC a_inodeState a_inodePlace a_inodeClient a_closeUnits a_rowLength a_rowBlock a_blockStamp a_replicaHeld a_replicaStamp a_unitCount a_unitValue := by
        intro hf
        have := ih n (i + 1) (by omega) (by omega) aB (fun j hj => by
          have hz : lj_n (i + 1) to ju j = lj_n i to ju j := by
            by_cases e : j = i
            · subst e; unfold lj_n; rw [hf]; simp
            · exact lj_nS e
          rw [hz]; exact H j hj)
        rw [rd_cnF (f := fun j => to j && ju j) hf] at this
        exact this
      refine br_f (lb_f hi3) ⟨hv, cd_if (cd_p (l5 i hi3) (by omega)) (fun z => nm_r (nI_1 i) (skip (by rw [z]; rfl))) (fun z => ⟨hv, cd_if (cd_n (l3 i hi3) (by omega)) (fun hu => ⟨hv, hv, nm_e ?_⟩) (fun hu => nm_r (nI_1 i) (skip (by rw [show ju i = false by simpa using hu]; cases to i <;> rfl)))⟩)⟩
      have hf : (to i && ju i) = true := by rw [hu, show to i = true by simpa using z]; rfl
      refine nm_r (rd_cnT (f := fun j => to j && ju j) hf) (nm_r (nI_1 i) (ih n (i + 1) (by omega) (by omega) _ (fun j hj => ?_)))
      rw [hc, l8 i hi3]
      by_cases y : j = i
      · subst y
        rw [pk_us, lj_nI (by omega), if_pos hf]
      · rw [pk_un y, lj_nS y]; exact H j hj
  refine ⟨4, key 3 4 0 (by omega) (by omega) _ (fun j hj => ?_)⟩
  rw [show lj_n 0 to ju j = false by unfold lj_n; simp]; exact l7 j hj
theorem ym_fold {v : SY} (hL : sy_L (mu, ju, ac, ep, to, pr, ba, le, lg) v) (hD : sy_D (nu, st, un, ua) v) (ha : ac ≤ 2) {post : Int32 → SY → Prop} (h0 : ac = 0 → post (-1) v) (h1 : 0 < ac → ∀ v', sy_L (lj_fo (mu, ju, ac, ep, to, pr, ba, le, lg)) v' → sy_D (nu, st, un, ua) v' → post (nI (rd_cn (fun j => to j && ju j) 3)) v') : wpY_fold post v := by
  obtain ⟨f_active, f_epoch, a_nodeUp, a_journalUp, a_masterUp, a_touch, a_log, a_many, a_promise, a_base, a_stamp, a_units, a_unit, a_sort, a_placeOf, a_client, a_rowLength, a_row, a_closedWith, a_stampOf⟩ := v
  obtain ⟨l1, l2, l3, l4, l5, l6, l7, l8, l9⟩ := hL
  obtain ⟨d1, d2, d3, d4⟩ := hD
  refine cd_if (show 0 ≤ f_active ↔ 0 < ac by rw [show f_active = qt_m ac from l1]; exact qt_Nm (s := 0) (by omega) (by decide)) (fun za => ?_) (fun za => h0 (by omega))
  have key : ∀ m n i, i + m = 3 → m < n → ∀ aB : Nat → Int32, (∀ j, j < 3 → aB j = nI (if lj_n i to ju j = true then le j else ba j)) → wY_fold_13 post f_active f_epoch n (nI (rd_cn (fun j => to j && ju j) i)) (nI i) a_nodeUp a_journalUp a_masterUp a_touch a_log a_many a_promise aB a_stamp a_units a_unit a_sort a_placeOf a_client a_rowLength a_row a_closedWith a_stampOf := by
    intro m
    induction m with
    | zero =>
      intro n i hi hn aB H
      obtain ⟨n, rfl⟩ : ∃ n', n = n' + 1 := ⟨n - 1, by omega⟩
      have e : i = 3 := by omega
      subst e
      refine br_t lb_t (h1 za _ ⟨l1, l2, l3, l4, l5, l6, ?_, l8, l9⟩ ⟨d1, d2, d3, d4⟩)
      intro j hj
      have := H j hj
      rw [lj_ifT hj] at this
      exact this
    | succ m ih =>
      intro n i hi hn aB H
      obtain ⟨n, rfl⟩ : ∃ n', n = n' + 1 := ⟨n - 1, by omega⟩
      have hi3 : i < 3 := by omega
      have hv := vp_in_nI hi3 (by decide : 3 < 2 ^ 31)
      have hc : (nI i).toNatClampNeg = i := nI_clamp (by omega)
      have skip : (to i && ju i) = false → wY_fold_13 post f_active f_epoch n (nI (rd_cn (fun j => to j && ju j) i)) (nI (i + 1)) a_nodeUp a_journalUp a_masterUp a_touch a_log a_many a_promise aB a_stamp a_units a_unit a_sort a_placeOf a_client a_rowLength a_row a_closedWith a_stampOf := by
        intro hf
        have := ih n (i + 1) (by omega) (by omega) aB (fun j hj => by
          have hz : lj_n (i + 1) to ju j = lj_n i to ju j := by
            by_cases e : j = i
            · subst e; unfold lj_n; rw [hf]; simp
            · exact lj_nS e
          rw [hz]; exact H j hj)
        rw [rd_cnF (f := fun j => to j && ju j) hf] at this
        exact this
      refine br_f (lb_f hi3) ⟨hv, cd_if (cd_p (l5 i hi3) (by omega)) (fun z => nm_r (nI_1 i) (skip (by rw [z]; rfl))) (fun z => ⟨hv, cd_if (cd_p (l3 i hi3) (by omega)) (fun hu => nm_r (nI_1 i) (skip (by rw [hu]; cases to i <;> rfl))) (fun hu => ⟨hv, hv, nm_e ?_⟩)⟩)⟩
      have hf : (to i && ju i) = true := by rw [show ju i = true by simpa using hu, show to i = true by simpa using z]; rfl
      refine nm_r (rd_cnT (f := fun j => to j && ju j) hf) (nm_r (nI_1 i) (ih n (i + 1) (by omega) (by omega) _ (fun j hj => ?_)))
      rw [hc, l8 i hi3]
      by_cases y : j = i
      · subst y
        rw [pk_us, lj_nI (by omega), if_pos hf]
      · rw [pk_un y, lj_nS y]; exact H j hj
  refine ⟨4, key 3 4 0 (by omega) (by omega) _ (fun j hj => ?_)⟩
  rw [show lj_n 0 to ju j = false by unfold lj_n; simp]; exact l7 j hj
end
theorem i_vc_fold {k : Nat} {u : SX} {v : SY} (I : i_Rel k u v) (hk : k + 4 ≤ 2048) : wpX_fold (fun r u' => wpY_fold (fun r' v' => r' = r ∧ i_Rel (k + 4) u' v') v) u := by
  have I' := i_up I
  obtain ⟨T, ⟨mu, ju, ac, ep, to, pr, ba, le, lg⟩, ⟨nu, st, un, ua⟩, h1, h2, h3, h4, h5, h6, h7, h8⟩ := I
  refine xm_fold h1 h2 h3 h7.2.1 (fun z => ym_fold h4 h5 h7.2.1 (fun _ => ⟨rfl, I'⟩) (fun y => by omega)) (fun z u' g1 g2 g3 => ym_fold h4 h5 h7.2.1 (fun y => by omega) (fun y v' m1 m2 => ⟨rfl, T, _, _, g1, g2, g3, m1, m2, h6, lj_ivK (by omega) (lj_foI h7), ?_⟩))
  exact ⟨h8.1, h8.2⟩
end
section
/-! make, remove, move -/
theorem rd_wrI {k : Nat} {L : lj_L} {T : qt_T} {nu : Nat → Bool} {st un : Nat → Nat} {ua : Nat → Int32} {q a b c : Nat} (I : lj_iv k L T) (ha : 0 < lj_ac L) (hs : ∀ c, c < 80 → st c ≤ 2048 * lj_ep L + lj_len L + 1) (hu : ∀ c, c < 80 → un c ≤ 8) : rd_iv (lj_wr L q a b c) (nu, st, un, ua) := by
  refine ⟨fun x hx => ?_, hu⟩
  have h1 := hs x hx
  have h2 := rl_len I
  cases hk : lj_kept L with
  | true =>
    obtain ⟨e1, e2, e3⟩ := lj_wrN (q := q) (a := a) (b := b) (c := c) I ha hk
    rw [e1, e2, e3, if_pos ha]; omega
  | false =>
    obtain ⟨e1, e2⟩ := lj_wrA (q := q) (a := a) (b := b) (c := c) hk
    rw [e1, e2, if_neg (by omega)]; omega
theorem rd_ivS {L : lj_L} {nu : Nat → Bool} {st un : Nat → Nat} {ua : Nat → Int32} (h : rd_iv L (nu, st, un, ua)) (ha : 0 < lj_ac L) : ∀ c, c < 80 → st c ≤ 2048 * lj_ep L + lj_len L := by
  intro c hc
  have := h.1 c hc
  rw [if_pos ha] at this
  exact this
/-- an int from -1 to 3, as a number and 1; 5 for all others -/
def ix_q (x : Int32) (c : Nat) : Prop := (c ≤ 4 ∧ x = qt_m c ∧ ¬ x < -1 ∧ ¬ 4 ≤ x ∧ ¬ 3 < x) ∨ (c = 5 ∧ (x < -1 ∨ (¬ x < -1 ∧ 4 ≤ x ∧ 3 < x)))
theorem ix_qe (x : Int32) : ∃ c, ix_q x c := by
  by_cases h : x < -1
  · exact ⟨5, Or.inr ⟨rfl, Or.inl h⟩⟩
  · by_cases h1 : x = -1
    · subst h1
      exact ⟨0, Or.inl ⟨by decide, by decide +kernel, by decide, by decide, by decide⟩⟩
    · have h0 : ¬ x < 0 := by
        intro z
        rw [Int32.lt_iff_toInt_lt] at h z
        rw [← Int32.toInt_inj] at h1
        rw [show (-1 : Int32).toInt = -1 by decide] at h h1
        rw [show (0 : Int32).toInt = 0 by decide] at z
        omega
      obtain ⟨j, hj, rfl⟩ := nI_of h0
      by_cases h4 : j < 4
      · refine ⟨j + 1, Or.inl ⟨by omega, (qt_ms j).symm, h, lb_f h4, ?_⟩⟩
        exact fun z => by have := (nI_ltI (a := 3) (by decide) (by omega)).mp z; omega
      · exact ⟨5, Or.inr ⟨rfl, Or.inr ⟨h, nI_le (a := 4) (by omega) hj, nI_lt (a := 3) (by omega) hj⟩⟩⟩
theorem qt_rbI {e q a b c : Nat} (h1 : e ≤ 512) (h2 : q < 6) (h3 : a < 16) (h4 : b < 96) (h5 : c ≤ 4) : qt_rb (e, q, a, b, c) := ⟨h1, h2, h3, h4, h5⟩
theorem ls_1 {T : qt_T} {m : Nat} (hI : qt_iv T) (hm : ls_f (fun i => qt_so T i = 0) 12 m) : 1 ≤ m := by
  by_cases y : m = 0
  · subst y
    have z : qt_so T 0 = 0 := hm.2.2 (by decide)
    rw [qt_iv1 hI] at z
    omega
  · omega
theorem lj_rmL {k n : Nat} {L : lj_L} {T : qt_T} (I : lj_iv k L T) (ha : 0 < lj_ac L) (h : lj_rm L n) : lj_len L + n ≤ 1000 := by
  obtain ⟨mu, ju, ac, ep, to, pr, ba, le, lg⟩ := L
  exact (h _ (lj_srcL to) (lj_srcT (I.2.2.2.2.2 ha).1)).2
section
variable {T : qt_T} {mu ju : Nat → Bool} {ac ep : Nat} {to : Nat → Bool} {pr ba le : Nat → Nat} {lg : Nat → Nat → qt_R} {nu : Nat → Bool} {st un : Nat → Nat} {ua : Nat → Int32}
theorem xm_act {f : Int32} (h : f = qt_m ac) (ha : ac ≤ 2) : f = -1 ↔ ac = 0 := by rw [h, qt_m0E (by omega)]
theorem ym_act {f : Int32} (h : f = qt_m ac) (ha : ac ≤ 2) : 0 ≤ f ↔ 0 < ac := by rw [h]; exact qt_Nm (s := 0) (by omega) (by decide)
theorem xm_make {k : Nat} {u : SX} (h : sx_T T u) (hI : qt_iv T) (hL : sx_L (mu, ju, ac, ep, to, pr, ba, le, lg) u) (hD : sx_D (nu, st, un, ua) u) (hiv : lj_iv k (mu, ju, ac, ep, to, pr, ba, le, lg) T) (he : ep ≤ 512) {post : Int32 → SX → Prop} {p q r : Int32} {c d x m : Nat} (hc : ix_q p c) (hd : ix_c q 12 d) (hx : ix_c r 8 x) (hm : ls_f (fun i => qt_so T i = 0) 12 m)
    (k0 : ac = 0 → post (-1) u) (k1 : 0 < ac → c = 5 → post (-2) u) (k2 : 0 < ac → c ≤ 4 → ¬ qt_fr T d x → post (-2) u) (k3 : 0 < ac → c ≤ 4 → qt_fr T d x → m = 12 → post (-4) u) (k4 : 0 < ac → c ≤ 4 → qt_fr T d x → m < 12 → ¬ lj_rm (mu, ju, ac, ep, to, pr, ba, le, lg) 1 → post (-4) u)
    (k5 : 0 < ac → c ≤ 4 → qt_fr T d x → m < 12 → lj_rm (mu, ju, ac, ep, to, pr, ba, le, lg) 1 → lj_kept (mu, ju, ac, ep, to, pr, ba, le, lg) = true → ∀ u', sx_T (qt_ap T (ep, 0, m, 8 * d + x, c) (le (lj_src to))) u' → sx_L (lj_wr (mu, ju, ac, ep, to, pr, ba, le, lg) 0 m (8 * d + x) c) u' → sx_D (nu, st, un, ua) u' → post (nI m) u')
    (k6 : 0 < ac → c ≤ 4 → qt_fr T d x → m < 12 → lj_rm (mu, ju, ac, ep, to, pr, ba, le, lg) 1 → lj_kept (mu, ju, ac, ep, to, pr, ba, le, lg) = false → ∀ u', sx_T T u' → sx_L (lj_wr (mu, ju, ac, ep, to, pr, ba, le, lg) 0 m (8 * d + x) c) u' → sx_D (nu, st, un, ua) u' → post (-3) u') : wpX_make post u p q r := by
  obtain ⟨f_active, f_epoch, a_dataNodeDown, a_journalDown, a_masterDown, a_inTouch, a_promise, a_base, a_logLength, a_logEpoch, a_logKind, a_logA, a_logB, a_logC, a_inodeState, a_inodePlace, a_inodeClient, a_closeUnits, a_rowLength, a_rowBlock, a_blockStamp, a_replicaHeld, a_replicaStamp, a_unitCount, a_unitValue⟩ := u
  have hac2 := hiv.2.1
  have i5 := hiv.2.2.2.2.1
  refine cd_if (xm_act hL.1 hac2) k0 (fun za => ?_)
  have ha : 0 < ac := by omega
  rcases hc with ⟨hc, rfl, c1, c2, c3⟩ | ⟨hc, c1 | ⟨c1, c2, c3⟩⟩
  · refine br_f c1 (br_f c2 (xm_isFreePlace (u := (f_active, f_epoch, a_dataNodeDown, a_journalDown, a_masterDown, a_inTouch, a_promise, a_base, a_logLength, a_logEpoch, a_logKind, a_logA, a_logB, a_logC, a_inodeState, a_inodePlace, a_inodeClient, a_closeUnits, a_rowLength, a_rowBlock, a_blockStamp, a_replicaHeld, a_replicaStamp, a_unitCount, a_unitValue)) h hI hd hx (fun hf => br_f bo_1 ?_) (fun hf => br_t rfl (k2 ha hc hf))))
    refine xm_leastAbsentInode (u := (f_active, f_epoch, a_dataNodeDown, a_journalDown, a_masterDown, a_inTouch, a_promise, a_base, a_logLength, a_logEpoch, a_logKind, a_logA, a_logB, a_logC, a_inodeState, a_inodePlace, a_inodeClient, a_closeUnits, a_rowLength, a_rowBlock, a_blockStamp, a_replicaHeld, a_replicaStamp, a_unitCount, a_unitValue)) h hI hm ?_
    by_cases hmm : m < 12
    · rw [ls_vS hmm]
      refine br_f (ix_m1 (by omega)) (xm_logsLackRoom (u := (f_active, f_epoch, a_dataNodeDown, a_journalDown, a_masterDown, a_inTouch, a_promise, a_base, a_logLength, a_logEpoch, a_logKind, a_logA, a_logB, a_logC, a_inodeState, a_inodePlace, a_inodeClient, a_closeUnits, a_rowLength, a_rowBlock, a_blockStamp, a_replicaHeld, a_replicaStamp, a_unitCount, a_unitValue)) hL (fun j hj => ⟨(i5 j hj).2.1, (i5 j hj).2.2.2⟩) (R := 1) (by decide) (fun z => br_f bo_1 (k4 ha hc hf hmm z)) (fun z => br_t rfl ?_))
      obtain ⟨f1, f2, f3, f4⟩ := hf
      have e1 := ix_i hd f1
      have e2 := ix_i hx f2
      subst e1 e2
      have hm1 : 1 ≤ m := ls_1 hI hm
      rw [show nI d * 8 + nI x = nI (8 * d + x) from mu_r d 8 x]
      have ho : qt_ok T (ep, 0, m, 8 * d + x, c) := by
        refine ⟨he, Or.inl ⟨rfl, hm1, hmm, hm.2.2 hmm, by omega, ?_, hc⟩⟩
        rw [show (8 * d + x) / 8 = d by omega]; exact f3
      refine xm_writeRecord (u := (f_active, f_epoch, a_dataNodeDown, a_journalDown, a_masterDown, a_inTouch, a_promise, a_base, a_logLength, a_logEpoch, a_logKind, a_logA, a_logB, a_logC, a_inodeState, a_inodePlace, a_inodeClient, a_closeUnits, a_rowLength, a_rowBlock, a_blockStamp, a_replicaHeld, a_replicaStamp, a_unitCount, a_unitValue)) h hI hL hD ha hiv z ho (fun hk => ?_) (fun hk => ?_)
      · rintro ⟨f_active, f_epoch, a_dataNodeDown, a_journalDown, a_masterDown, a_inTouch, a_promise, a_base, a_logLength, a_logEpoch, a_logKind, a_logA, a_logB, a_logC, a_inodeState, a_inodePlace, a_inodeClient, a_closeUnits, a_rowLength, a_rowBlock, a_blockStamp, a_replicaHeld, a_replicaStamp, a_unitCount, a_unitValue⟩ g1 g2 g3
        exact br_f bo_1 (k5 ha hc ⟨f1, f2, f3, f4⟩ hmm z hk _ g1 g2 g3)
      · rintro ⟨f_active, f_epoch, a_dataNodeDown, a_journalDown, a_masterDown, a_inTouch, a_promise, a_base, a_logLength, a_logEpoch, a_logKind, a_logA, a_logB, a_logC, a_inodeState, a_inodePlace, a_inodeClient, a_closeUnits, a_rowLength, a_rowBlock, a_blockStamp, a_replicaHeld, a_replicaStamp, a_unitCount, a_unitValue⟩ g1 g2 g3
        exact br_t rfl (k6 ha hc ⟨f1, f2, f3, f4⟩ hmm z hk _ g1 g2 g3)
    · have e : m = 12 := by have := hm.1; omega
      subst e
      rw [ls_vN]
      exact br_t rfl (k3 ha hc hf rfl)
  · exact br_t c1 (k1 ha hc)
  · exact br_f c1 (br_t c2 (k1 ha hc))
theorem ym_make {k : Nat} {v : SY} (hI : qt_iv T) (hL : sy_L (mu, ju, ac, ep, to, pr, ba, le, lg) v) (hD : sy_D (nu, st, un, ua) v) (hiv : lj_iv k (mu, ju, ac, ep, to, pr, ba, le, lg) T) (he : ep ≤ 512) {post : Int32 → SY → Prop} {p q r : Int32} {c d x m : Nat} (hc : ix_q p c) (hd : ix_c q 12 d) (hx : ix_c r 8 x) (hm : ls_f (fun i => qt_so T i = 0) 12 m)
    (k0 : ac = 0 → post (-1) v) (k1 : 0 < ac → c = 5 → ∀ v', sy_L (mu, ju, ac, ep, to, pr, ba, le, lg) v' → sy_D (nu, st, un, ua) v' → post (-2) v') (k2 : 0 < ac → c ≤ 4 → ¬ qt_fr T d x → ∀ v', sy_L (mu, ju, ac, ep, to, pr, ba, le, lg) v' → sy_D (nu, st, un, ua) v' → post (-2) v') (k3 : 0 < ac → c ≤ 4 → qt_fr T d x → m = 12 → ∀ v', sy_L (mu, ju, ac, ep, to, pr, ba, le, lg) v' → sy_D (nu, st, un, ua) v' → post (-4) v') (k4 : 0 < ac → c ≤ 4 → qt_fr T d x → m < 12 → ¬ lj_rm (mu, ju, ac, ep, to, pr, ba, le, lg) 1 → ∀ v', sy_L (mu, ju, ac, ep, to, pr, ba, le, lg) v' → sy_D (nu, st, un, ua) v' → post (-4) v')
    (k5 : 0 < ac → c ≤ 4 → qt_fr T d x → m < 12 → lj_rm (mu, ju, ac, ep, to, pr, ba, le, lg) 1 → lj_kept (mu, ju, ac, ep, to, pr, ba, le, lg) = true → ∀ v', sy_L (lj_wr (mu, ju, ac, ep, to, pr, ba, le, lg) 0 m (8 * d + x) c) v' → sy_D (nu, st, un, ua) v' → post (nI m) v')
    (k6 : 0 < ac → c ≤ 4 → qt_fr T d x → m < 12 → lj_rm (mu, ju, ac, ep, to, pr, ba, le, lg) 1 → lj_kept (mu, ju, ac, ep, to, pr, ba, le, lg) = false → ∀ v', sy_L (lj_wr (mu, ju, ac, ep, to, pr, ba, le, lg) 0 m (8 * d + x) c) v' → sy_D (nu, st, un, ua) v' → post (-3) v') : wpY_make post v p q r := by
  obtain ⟨f_active, f_epoch, a_nodeUp, a_journalUp, a_masterUp, a_touch, a_log, a_many, a_promise, a_base, a_stamp, a_units, a_unit, a_sort, a_placeOf, a_client, a_rowLength, a_row, a_closedWith, a_stampOf⟩ := v
  have hac2 := hiv.2.1
  have i5 := hiv.2.2.2.2.1
  refine cd_if (ym_act hL.1 hac2) (fun ha => ym_tell (v := (f_active, f_epoch, a_nodeUp, a_journalUp, a_masterUp, a_touch, a_log, a_many, a_promise, a_base, a_stamp, a_units, a_unit, a_sort, a_placeOf, a_client, a_rowLength, a_row, a_closedWith, a_stampOf)) hL hD (fun j hj => ⟨(i5 j hj).1, (i5 j hj).2.2.2⟩) ?_) (fun za => k0 (by omega))
  rintro ⟨f_active, f_epoch, a_nodeUp, a_journalUp, a_masterUp, a_touch, a_log, a_many, a_promise, a_base, a_stamp, a_units, a_unit, a_sort, a_placeOf, a_client, a_rowLength, a_row, a_closedWith, a_stampOf⟩ gT gL gD
  rw [← (hiv.2.2.2.2.2 ha).2.2] at gT
  have hm1 : 1 ≤ m := ls_1 hI hm
  have rest : c ≤ 4 → qt_fr T d x → p = qt_m c → wY_make_65 post p q r (nI m) f_active f_epoch a_nodeUp a_journalUp a_masterUp a_touch a_log a_many a_promise a_base a_stamp a_units a_unit a_sort a_placeOf a_client a_rowLength a_row a_closedWith a_stampOf := by
    intro hc4 hf ep'
    subst ep'
    refine cd_if (nI_eq (b := 12) (by have := hm.1; omega) (by decide)) (fun z => k3 ha hc4 hf z _ gL gD) (fun z => ?_)
    have hmm : m < 12 := by have := hm.1; omega
    refine ym_tooMany (v := (f_active, f_epoch, a_nodeUp, a_journalUp, a_masterUp, a_touch, a_log, a_many, a_promise, a_base, a_stamp, a_units, a_unit, a_sort, a_placeOf, a_client, a_rowLength, a_row, a_closedWith, a_stampOf)) gL (fun j hj => ⟨(i5 j hj).2.1, (i5 j hj).2.2.2⟩) (R := 1) (by decide) (fun z => br_f bo_1 (k4 ha hc4 hf hmm z _ gL gD)) (fun z => br_t rfl ?_)
    obtain ⟨f1, f2, f3, f4⟩ := hf
    have e1 := ix_i hd f1
    have e2 := ix_i hx f2
    subst e1 e2
    rw [show 8 * nI d + nI x = nI (8 * d + x) from mu_l d 8 x]
    refine ym_write (v := (f_active, f_epoch, a_nodeUp, a_journalUp, a_masterUp, a_touch, a_log, a_many, a_promise, a_base, a_stamp, a_units, a_unit, a_sort, a_placeOf, a_client, a_rowLength, a_row, a_closedWith, a_stampOf)) gL gD (fun j hj => (i5 j hj).2.2.2) (qt_rbI he (by decide) (by omega) (by omega) hc4) (fun hk => ?_) (fun hk => ?_)
    · rintro ⟨f_active, f_epoch, a_nodeUp, a_journalUp, a_masterUp, a_touch, a_log, a_many, a_promise, a_base, a_stamp, a_units, a_unit, a_sort, a_placeOf, a_client, a_rowLength, a_row, a_closedWith, a_stampOf⟩ g2 g3
      exact br_f bo_1 (k5 ha hc4 ⟨f1, f2, f3, f4⟩ hmm z hk _ g2 g3)
    · rintro ⟨f_active, f_epoch, a_nodeUp, a_journalUp, a_masterUp, a_touch, a_log, a_many, a_promise, a_base, a_stamp, a_units, a_unit, a_sort, a_placeOf, a_client, a_rowLength, a_row, a_closedWith, a_stampOf⟩ g2 g3
      exact br_t rfl (k6 ha hc4 ⟨f1, f2, f3, f4⟩ hmm z hk _ g2 g3)
  have loop : c ≤ 4 → qt_fr T d x → p = qt_m c → ∃ n, wY_make_42 post p q r f_active f_epoch a_nodeUp a_journalUp a_masterUp a_touch a_log a_many a_promise a_base a_stamp a_units a_unit a_sort a_placeOf a_client a_rowLength a_row a_closedWith a_stampOf n 1 := by
    intro hc hf ep'
    refine ⟨13, lq_s (fun n i => wY_make_42 post p q r f_active f_epoch a_nodeUp a_journalUp a_masterUp a_touch a_log a_many a_promise a_base a_stamp a_units a_unit a_sort a_placeOf a_client a_rowLength a_row a_closedWith a_stampOf n (nI i)) 12 m hm.1 (fun n e => ?_) (fun n hlt => ?_) (fun n i hi H => ?_) 13 1 (by omega) (by omega)⟩
    · have := rest hc hf ep'
      rw [e] at this
      exact br_t lb_t this
    · have hb := qt_iv3 hI m hlt
      exact br_f (lb_f hlt) ⟨vp_in_nI hlt (by decide), br_t ((cd_e (c := 0) (qt_ag1 gT m hlt) (by omega) (by omega) (by decide)).mpr (hm.2.2 hlt)) (rest hc hf ep')⟩
    · have hlt : i < 12 := by have := hm.1; omega
      have hb := qt_iv3 hI i hlt
      exact br_f (lb_f hlt) ⟨vp_in_nI hlt (by decide), br_f ((not_congr (cd_e (c := 0) (qt_ag1 gT i hlt) (by omega) (by omega) (by decide))).mpr (hm.2.1 i hi)) (nm_r (nI_1 i) H)⟩
  rcases hc with ⟨hc, ep', c1, c2, c3⟩ | ⟨hc, c1 | ⟨c1, c2, c3⟩⟩
  · exact ym_isFree (v := (f_active, f_epoch, a_nodeUp, a_journalUp, a_masterUp, a_touch, a_log, a_many, a_promise, a_base, a_stamp, a_units, a_unit, a_sort, a_placeOf, a_client, a_rowLength, a_row, a_closedWith, a_stampOf)) gT hI hd hx (fun hf => br_f c1 (br_f c3 (br_f bo_1 (loop hc hf ep')))) (fun hf => br_f c1 (br_f c3 (br_t rfl (k2 ha hc hf _ gL gD))))
  · exact ym_isFree (v := (f_active, f_epoch, a_nodeUp, a_journalUp, a_masterUp, a_touch, a_log, a_many, a_promise, a_base, a_stamp, a_units, a_unit, a_sort, a_placeOf, a_client, a_rowLength, a_row, a_closedWith, a_stampOf)) gT hI hd hx (fun hf => br_t c1 (k1 ha hc _ gL gD)) (fun hf => br_t c1 (k1 ha hc _ gL gD))
  · exact ym_isFree (v := (f_active, f_epoch, a_nodeUp, a_journalUp, a_masterUp, a_touch, a_log, a_many, a_promise, a_base, a_stamp, a_units, a_unit, a_sort, a_placeOf, a_client, a_rowLength, a_row, a_closedWith, a_stampOf)) gT hI hd hx (fun hf => br_f c1 (br_t c3 (k1 ha hc _ gL gD))) (fun hf => br_f c1 (br_t c3 (k1 ha hc _ gL gD)))
end
theorem i_vc_make {k : Nat} {u : SX} {v : SY} (I : i_Rel k u v) (hk : k + 4 ≤ 2048) (v1 : Int32) (v2 : Int32) (v3 : Int32) : wpX_make (fun r u' => wpY_make (fun r' v' => r' = r ∧ i_Rel (k + 4) u' v') v v1 v2 v3) u v1 v2 v3 := by
  have I' := i_up I
  obtain ⟨T, ⟨mu, ju, ac, ep, to, pr, ba, le, lg⟩, ⟨nu, st, un, ua⟩, h1, h2, h3, h4, h5, h6, h7, h8⟩ := I
  have he : ep ≤ 512 := rl_ep h7 (by omega)
  obtain ⟨c, hc⟩ := ix_qe v1
  obtain ⟨d, hd⟩ := ix_e v2 (N := 12) (by decide)
  obtain ⟨x, hx⟩ := ix_e v3 (N := 8) (by decide)
  obtain ⟨m, hm⟩ := ls_ex (fun i => qt_so T i = 0) 12
  have R0 : ∀ v', sy_L (mu, ju, ac, ep, to, pr, ba, le, lg) v' → sy_D (nu, st, un, ua) v' → i_Rel (k + 4) u v' := fun v' g1 g2 => ⟨T, _, _, h1, h2, h3, g1, g2, h6, lj_ivK (by omega) h7, h8⟩
  refine xm_make h1 h6 h2 h3 h7 he hc hd hx hm (fun a => ?_) (fun a b => ?_) (fun a b e => ?_) (fun a b e f => ?_) (fun a b e f g => ?_) (fun a b e f g hkp u' g1 g2 g3 => ?_) (fun a b e f g hkp u' g1 g2 g3 => ?_)
  · exact ym_make h6 h4 h5 h7 he hc hd hx hm (fun _ => ⟨rfl, I'⟩) (by intros; omega) (by intros; omega) (by intros; omega) (by intros; omega) (by intros; omega) (by intros; omega)
  · exact ym_make h6 h4 h5 h7 he hc hd hx hm (by intros; omega) (fun _ _ v' m1 m2 => ⟨rfl, R0 v' m1 m2⟩) (by intros; omega) (by intros; omega) (by intros; omega) (by intros; omega) (by intros; omega)
  · exact ym_make h6 h4 h5 h7 he hc hd hx hm (by intros; omega) (by intros; omega) (fun _ _ _ v' m1 m2 => ⟨rfl, R0 v' m1 m2⟩) (by intros; contradiction) (by intros; contradiction) (by intros; contradiction) (by intros; contradiction)
  · exact ym_make h6 h4 h5 h7 he hc hd hx hm (by intros; omega) (by intros; omega) (by intros; contradiction) (fun _ _ _ _ v' m1 m2 => ⟨rfl, R0 v' m1 m2⟩) (by intros; omega) (by intros; omega) (by intros; omega)
  · exact ym_make h6 h4 h5 h7 he hc hd hx hm (by intros; omega) (by intros; omega) (by intros; contradiction) (by intros; omega) (fun _ _ _ _ _ v' m1 m2 => ⟨rfl, R0 v' m1 m2⟩) (by intros; contradiction) (by intros; contradiction)
  · have ho : qt_ok T (ep, 0, m, 8 * d + x, c) := by
      refine ⟨he, Or.inl ⟨rfl, ls_1 h6 hm, f, hm.2.2 f, by have := e.1; have := e.2.1; omega, ?_, b⟩⟩
      rw [show (8 * d + x) / 8 = d by have := e.2.1; omega]; exact e.2.2.1
    have W := lj_wrI h7 a g ho
    rw [if_pos hkp] at W
    have hlen : lj_len (mu, ju, ac, ep, to, pr, ba, le, lg) < 1000 := lj_rmL h7 a g
    exact ym_make h6 h4 h5 h7 he hc hd hx hm (by intros; omega) (by intros; omega) (by intros; contradiction) (by intros; omega) (by intros; contradiction) (fun _ _ _ _ _ _ v' m1 m2 => ⟨rfl, _, _, _, g1, g2, g3, m1, m2, qt_ivAp h6 ho hlen, lj_ivK (by omega) W, rd_wrI h7 a (fun c hc => by have := rd_ivS h8 a c hc; omega) h8.2⟩) (by intros; simp_all)
  · have ho : qt_ok T (ep, 0, m, 8 * d + x, c) := by
      refine ⟨he, Or.inl ⟨rfl, ls_1 h6 hm, f, hm.2.2 f, by have := e.1; have := e.2.1; omega, ?_, b⟩⟩
      rw [show (8 * d + x) / 8 = d by have := e.2.1; omega]; exact e.2.2.1
    have W := lj_wrI h7 a g ho
    rw [if_neg (by rw [hkp]; decide)] at W
    exact ym_make h6 h4 h5 h7 he hc hd hx hm (by intros; omega) (by intros; omega) (by intros; contradiction) (by intros; omega) (by intros; contradiction) (by intros; simp_all) (fun _ _ _ _ _ _ v' m1 m2 => ⟨rfl, _, _, _, g1, g2, g3, m1, m2, h6, lj_ivK (by omega) W, rd_wrI h7 a (fun c hc => by have := rd_ivS h8 a c hc; omega) h8.2⟩)
end
section
/-! remove, move -/
section
variable {T : qt_T} {mu ju : Nat → Bool} {ac ep : Nat} {to : Nat → Bool} {pr ba le : Nat → Nat} {lg : Nat → Nat → qt_R} {nu : Nat → Bool} {st un : Nat → Nat} {ua : Nat → Int32}
theorem xm_writeRecord1 {u : SX} (h : sx_T T u) (hI : qt_iv T) (hL : sx_L (mu, ju, ac, ep, to, pr, ba, le, lg) u) (hD : sx_D (nu, st, un, ua) u) (hac : 0 < ac) {k : Nat} (hiv : lj_iv k (mu, ju, ac, ep, to, pr, ba, le, lg) T) (hrm : lj_rm (mu, ju, ac, ep, to, pr, ba, le, lg) 1) {q a b : Nat} (ho : qt_ok T (ep, q, a, b, 1)) {post : Int32 → SX → Prop}
    (h1 : lj_kept (mu, ju, ac, ep, to, pr, ba, le, lg) = true → ∀ u', sx_T (qt_ap T (ep, q, a, b, 1) (le (lj_src to))) u' → sx_L (lj_wr (mu, ju, ac, ep, to, pr, ba, le, lg) q a b 1) u' → sx_D (nu, st, un, ua) u' → post 1 u')
    (h0 : lj_kept (mu, ju, ac, ep, to, pr, ba, le, lg) = false → ∀ u', sx_T T u' → sx_L (lj_wr (mu, ju, ac, ep, to, pr, ba, le, lg) q a b 1) u' → sx_D (nu, st, un, ua) u' → post 0 u') : wpX_writeRecord post u (nI q) (nI a) (nI b) 0 := by
  have e : (0 : Int32) = qt_m 1 := (qt_ms 0).symm
  have H := xm_writeRecord h hI hL hD hac hiv hrm ho h1 h0
  rw [← e] at H
  exact H
theorem ym_write1 {v : SY} (hL : sy_L (mu, ju, ac, ep, to, pr, ba, le, lg) v) (hD : sy_D (nu, st, un, ua) v) (hl3 : ∀ j, j < 3 → le j ≤ 1000) {q a b : Nat} (ho : qt_rb (ep, q, a, b, 1)) {post : Int32 → SY → Prop}
    (h1 : lj_kept (mu, ju, ac, ep, to, pr, ba, le, lg) = true → ∀ v', sy_L (lj_wr (mu, ju, ac, ep, to, pr, ba, le, lg) q a b 1) v' → sy_D (nu, st, un, ua) v' → post 1 v')
    (h0 : lj_kept (mu, ju, ac, ep, to, pr, ba, le, lg) = false → ∀ v', sy_L (lj_wr (mu, ju, ac, ep, to, pr, ba, le, lg) q a b 1) v' → sy_D (nu, st, un, ua) v' → post 0 v') : wpY_write post v (nI q) (nI a) (nI b) 0 := by
  have e : (0 : Int32) = qt_m 1 := (qt_ms 0).symm
  have H := ym_write hL hD hl3 ho h1 h0
  rw [← e] at H
  exact H
theorem qt_okRemove {n : Nat} (hI : qt_iv T) (he : ep ≤ 512) (h : qt_rm T n) : qt_ok T (ep, 4, n, 0, 1) := by
  refine ⟨he, Or.inr (Or.inr (Or.inr (Or.inr (Or.inl ⟨rfl, h.1, h.2.1, rfl, rfl, ?_⟩))))⟩
  rcases h.2.2 with z | ⟨z1, z2⟩
  · exact Or.inl z
  · refine Or.inr ⟨z1, fun x hx1 hx2 hx3 hx4 => ?_⟩
    have := rd_cn0 z2 x hx2
    unfold qt_ef at this
    exact (of_decide_eq_false this) ⟨hx1, hx3, hx4⟩
theorem xm_remove {k : Nat} {u : SX} (h : sx_T T u) (hI : qt_iv T) (hL : sx_L (mu, ju, ac, ep, to, pr, ba, le, lg) u) (hD : sx_D (nu, st, un, ua) u) (hiv : lj_iv k (mu, ju, ac, ep, to, pr, ba, le, lg) T) (he : ep ≤ 512) {post : Int32 → SX → Prop} {p : Int32} {n : Nat} (hn : ix_c p 12 n)
    (k0 : ac = 0 → post (-1) u) (k1 : 0 < ac → ¬ qt_rm T n → post (-2) u) (k2 : 0 < ac → qt_rm T n → ¬ lj_rm (mu, ju, ac, ep, to, pr, ba, le, lg) 1 → post (-4) u)
    (k3 : 0 < ac → qt_rm T n → lj_rm (mu, ju, ac, ep, to, pr, ba, le, lg) 1 → lj_kept (mu, ju, ac, ep, to, pr, ba, le, lg) = true → ∀ u', sx_T (qt_ap T (ep, 4, n, 0, 1) (le (lj_src to))) u' → sx_L (lj_wr (mu, ju, ac, ep, to, pr, ba, le, lg) 4 n 0 1) u' → sx_D (nu, st, un, ua) u' → post 0 u')
    (k4 : 0 < ac → qt_rm T n → lj_rm (mu, ju, ac, ep, to, pr, ba, le, lg) 1 → lj_kept (mu, ju, ac, ep, to, pr, ba, le, lg) = false → ∀ u', sx_T T u' → sx_L (lj_wr (mu, ju, ac, ep, to, pr, ba, le, lg) 4 n 0 1) u' → sx_D (nu, st, un, ua) u' → post (-3) u') : wpX_remove post u p := by
  obtain ⟨f_active, f_epoch, a_dataNodeDown, a_journalDown, a_masterDown, a_inTouch, a_promise, a_base, a_logLength, a_logEpoch, a_logKind, a_logA, a_logB, a_logC, a_inodeState, a_inodePlace, a_inodeClient, a_closeUnits, a_rowLength, a_rowBlock, a_blockStamp, a_replicaHeld, a_replicaStamp, a_unitCount, a_unitValue⟩ := u
  have i5 := hiv.2.2.2.2.1
  refine cd_if (xm_act hL.1 hiv.2.1) k0 (fun za => ?_)
  have ha : 0 < ac := by omega
  refine xm_canBeRemoved (u := (f_active, f_epoch, a_dataNodeDown, a_journalDown, a_masterDown, a_inTouch, a_promise, a_base, a_logLength, a_logEpoch, a_logKind, a_logA, a_logB, a_logC, a_inodeState, a_inodePlace, a_inodeClient, a_closeUnits, a_rowLength, a_rowBlock, a_blockStamp, a_replicaHeld, a_replicaStamp, a_unitCount, a_unitValue)) h hI hn (fun hr => br_f bo_1 ?_) (fun hr => br_t rfl (k1 ha hr))
  refine xm_logsLackRoom (u := (f_active, f_epoch, a_dataNodeDown, a_journalDown, a_masterDown, a_inTouch, a_promise, a_base, a_logLength, a_logEpoch, a_logKind, a_logA, a_logB, a_logC, a_inodeState, a_inodePlace, a_inodeClient, a_closeUnits, a_rowLength, a_rowBlock, a_blockStamp, a_replicaHeld, a_replicaStamp, a_unitCount, a_unitValue)) hL (fun j hj => ⟨(i5 j hj).2.1, (i5 j hj).2.2.2⟩) (R := 1) (by decide) (fun z => br_f bo_1 (k2 ha hr z)) (fun z => br_t rfl ?_)
  have e := ix_i hn hr.2.1
  subst e
  refine xm_writeRecord1 (u := (f_active, f_epoch, a_dataNodeDown, a_journalDown, a_masterDown, a_inTouch, a_promise, a_base, a_logLength, a_logEpoch, a_logKind, a_logA, a_logB, a_logC, a_inodeState, a_inodePlace, a_inodeClient, a_closeUnits, a_rowLength, a_rowBlock, a_blockStamp, a_replicaHeld, a_replicaStamp, a_unitCount, a_unitValue)) (q := 4) (b := 0) h hI hL hD ha hiv z (qt_okRemove hI he hr) (fun hk => ?_) (fun hk => ?_)
  · rintro ⟨f_active, f_epoch, a_dataNodeDown, a_journalDown, a_masterDown, a_inTouch, a_promise, a_base, a_logLength, a_logEpoch, a_logKind, a_logA, a_logB, a_logC, a_inodeState, a_inodePlace, a_inodeClient, a_closeUnits, a_rowLength, a_rowBlock, a_blockStamp, a_replicaHeld, a_replicaStamp, a_unitCount, a_unitValue⟩ g1 g2 g3
    exact br_f bo_1 (k3 ha hr z hk _ g1 g2 g3)
  · rintro ⟨f_active, f_epoch, a_dataNodeDown, a_journalDown, a_masterDown, a_inTouch, a_promise, a_base, a_logLength, a_logEpoch, a_logKind, a_logA, a_logB, a_logC, a_inodeState, a_inodePlace, a_inodeClient, a_closeUnits, a_rowLength, a_rowBlock, a_blockStamp, a_replicaHeld, a_replicaStamp, a_unitCount, a_unitValue⟩ g1 g2 g3
    exact br_t rfl (k4 ha hr z hk _ g1 g2 g3)
theorem ym_remove {k : Nat} {v : SY} (hI : qt_iv T) (hL : sy_L (mu, ju, ac, ep, to, pr, ba, le, lg) v) (hD : sy_D (nu, st, un, ua) v) (hiv : lj_iv k (mu, ju, ac, ep, to, pr, ba, le, lg) T) (he : ep ≤ 512) {post : Int32 → SY → Prop} {p : Int32} {n : Nat} (hn : ix_c p 12 n)
    (k0 : ac = 0 → post (-1) v) (k1 : 0 < ac → ¬ qt_rm T n → ∀ v', sy_L (mu, ju, ac, ep, to, pr, ba, le, lg) v' → sy_D (nu, st, un, ua) v' → post (-2) v') (k2 : 0 < ac → qt_rm T n → ¬ lj_rm (mu, ju, ac, ep, to, pr, ba, le, lg) 1 → ∀ v', sy_L (mu, ju, ac, ep, to, pr, ba, le, lg) v' → sy_D (nu, st, un, ua) v' → post (-4) v')
    (k3 : 0 < ac → qt_rm T n → lj_rm (mu, ju, ac, ep, to, pr, ba, le, lg) 1 → lj_kept (mu, ju, ac, ep, to, pr, ba, le, lg) = true → ∀ v', sy_L (lj_wr (mu, ju, ac, ep, to, pr, ba, le, lg) 4 n 0 1) v' → sy_D (nu, st, un, ua) v' → post 0 v')
    (k4 : 0 < ac → qt_rm T n → lj_rm (mu, ju, ac, ep, to, pr, ba, le, lg) 1 → lj_kept (mu, ju, ac, ep, to, pr, ba, le, lg) = false → ∀ v', sy_L (lj_wr (mu, ju, ac, ep, to, pr, ba, le, lg) 4 n 0 1) v' → sy_D (nu, st, un, ua) v' → post (-3) v') : wpY_remove post v p := by
  obtain ⟨f_active, f_epoch, a_nodeUp, a_journalUp, a_masterUp, a_touch, a_log, a_many, a_promise, a_base, a_stamp, a_units, a_unit, a_sort, a_placeOf, a_client, a_rowLength, a_row, a_closedWith, a_stampOf⟩ := v
  have i5 := hiv.2.2.2.2.1
  refine cd_if (ym_act hL.1 hiv.2.1) (fun ha => ym_tell (v := (f_active, f_epoch, a_nodeUp, a_journalUp, a_masterUp, a_touch, a_log, a_many, a_promise, a_base, a_stamp, a_units, a_unit, a_sort, a_placeOf, a_client, a_rowLength, a_row, a_closedWith, a_stampOf)) hL hD (fun j hj => ⟨(i5 j hj).1, (i5 j hj).2.2.2⟩) ?_) (fun za => k0 (by omega))
  rintro ⟨f_active, f_epoch, a_nodeUp, a_journalUp, a_masterUp, a_touch, a_log, a_many, a_promise, a_base, a_stamp, a_units, a_unit, a_sort, a_placeOf, a_client, a_rowLength, a_row, a_closedWith, a_stampOf⟩ gT gL gD
  rw [← (hiv.2.2.2.2.2 ha).2.2] at gT
  have rest : qt_rm T n → wY_remove_62 post p 1 f_active f_epoch a_nodeUp a_journalUp a_masterUp a_touch a_log a_many a_promise a_base a_stamp a_units a_unit a_sort a_placeOf a_client a_rowLength a_row a_closedWith a_stampOf := by
    intro hr
    refine br_f bo_1 (ym_tooMany (v := (f_active, f_epoch, a_nodeUp, a_journalUp, a_masterUp, a_touch, a_log, a_many, a_promise, a_base, a_stamp, a_units, a_unit, a_sort, a_placeOf, a_client, a_rowLength, a_row, a_closedWith, a_stampOf)) gL (fun j hj => ⟨(i5 j hj).2.1, (i5 j hj).2.2.2⟩) (R := 1) (by decide) (fun z => br_f bo_1 (k2 ha hr z _ gL gD)) (fun z => br_t rfl ?_))
    have e := ix_i hn hr.2.1
    subst e
    have hr1 := hr.2.1
    refine ym_write1 (v := (f_active, f_epoch, a_nodeUp, a_journalUp, a_masterUp, a_touch, a_log, a_many, a_promise, a_base, a_stamp, a_units, a_unit, a_sort, a_placeOf, a_client, a_rowLength, a_row, a_closedWith, a_stampOf)) (q := 4) (b := 0) gL gD (fun j hj => (i5 j hj).2.2.2) (qt_rbI he (by decide) (by omega) (by decide) (by decide)) (fun hk => ?_) (fun hk => ?_)
    · rintro ⟨f_active, f_epoch, a_nodeUp, a_journalUp, a_masterUp, a_touch, a_log, a_many, a_promise, a_base, a_stamp, a_units, a_unit, a_sort, a_placeOf, a_client, a_rowLength, a_row, a_closedWith, a_stampOf⟩ g2 g3
      exact br_f bo_1 (k3 ha hr z hk _ g2 g3)
    · rintro ⟨f_active, f_epoch, a_nodeUp, a_journalUp, a_masterUp, a_touch, a_log, a_many, a_promise, a_base, a_stamp, a_units, a_unit, a_sort, a_placeOf, a_client, a_rowLength, a_row, a_closedWith, a_stampOf⟩ g2 g3
      exact br_t rfl (k4 ha hr z hk _ g2 g3)
  refine ym_in hn (by decide) rfl (fun hlt => br_f bo_1 ?_) (fun e => br_t rfl (k1 ha (fun z => by have := z.2.1; omega) _ gL gD))
  have e := ix_i hn hlt
  subst e
  have hb := qt_iv3 hI n hlt
  have hv := vp_in_nI hlt (by decide : 12 < 2 ^ 31)
  refine cd_if (nI_eq (b := 0) (by omega) (by decide)) (fun z => k1 ha (fun y => by have := y.1; omega) _ gL gD) (fun z => ⟨hv, cd_if (cd_e (c := 3) (qt_ag1 gT n hlt) (by omega) (by omega) (by decide)) (fun y => rest ⟨by omega, hlt, Or.inl y⟩) (fun y => ⟨hv, cd_if (cd_e (c := 1) (qt_ag1 gT n hlt) (by omega) (by omega) (by decide)) (fun x => ?_) (fun x => br_t rfl (k1 ha (fun w => ?_) _ gL gD))⟩)⟩)
  · have hc := rd_cnL (qt_ef T n) 12
    refine ym_inside (v := (f_active, f_epoch, a_nodeUp, a_journalUp, a_masterUp, a_touch, a_log, a_many, a_promise, a_base, a_stamp, a_units, a_unit, a_sort, a_placeOf, a_client, a_rowLength, a_row, a_closedWith, a_stampOf)) gT hI hlt (cd_if (nI_eq (b := 0) (by omega) (by decide)) (fun w => rest ⟨by omega, hlt, Or.inr ⟨x, w⟩⟩) (fun w => br_t rfl (k1 ha (fun q => ?_) _ gL gD)))
    rcases q.2.2 with q | q
    · exact y q
    · exact w q.2
  · rcases w.2.2 with q | q
    · exact y q
    · exact x q.1
/-- the move may be made -/
def qt_mv (T : qt_T) (i d x : Nat) : Prop := 1 ≤ i ∧ i < 12 ∧ qt_so T i ≠ 0 ∧ qt_fr T d x ∧ ∀ n, qt_an (qt_pl T) n d ≠ i
theorem qt_okMove {i d x : Nat} (he : ep ≤ 512) (h : qt_mv T i d x) : qt_ok T (ep, 5, i, 8 * d + x, 1) := by
  obtain ⟨h1, h2, h3, ⟨f1, f2, f3, f4⟩, h5⟩ := h
  have e : (8 * d + x) / 8 = d := by omega
  refine ⟨he, Or.inr (Or.inr (Or.inr (Or.inr (Or.inr ⟨rfl, h1, h2, h3, by omega, ?_, rfl, ?_⟩))))⟩
  · rw [e]; exact f3
  · rw [e]; exact h5
theorem xm_move {k : Nat} {u : SX} (h : sx_T T u) (hI : qt_iv T) (hL : sx_L (mu, ju, ac, ep, to, pr, ba, le, lg) u) (hD : sx_D (nu, st, un, ua) u) (hiv : lj_iv k (mu, ju, ac, ep, to, pr, ba, le, lg) T) (he : ep ≤ 512) {post : Int32 → SX → Prop} {p q r : Int32} {i d x : Nat} (hi : ix_c p 12 i) (hd : ix_c q 12 d) (hx : ix_c r 8 x)
    (k0 : ac = 0 → post (-1) u) (k1 : 0 < ac → ¬ qt_mv T i d x → post (-2) u) (k2 : 0 < ac → qt_mv T i d x → ¬ lj_rm (mu, ju, ac, ep, to, pr, ba, le, lg) 1 → post (-4) u)
    (k3 : 0 < ac → qt_mv T i d x → lj_rm (mu, ju, ac, ep, to, pr, ba, le, lg) 1 → lj_kept (mu, ju, ac, ep, to, pr, ba, le, lg) = true → ∀ u', sx_T (qt_ap T (ep, 5, i, 8 * d + x, 1) (le (lj_src to))) u' → sx_L (lj_wr (mu, ju, ac, ep, to, pr, ba, le, lg) 5 i (8 * d + x) 1) u' → sx_D (nu, st, un, ua) u' → post 0 u')
    (k4 : 0 < ac → qt_mv T i d x → lj_rm (mu, ju, ac, ep, to, pr, ba, le, lg) 1 → lj_kept (mu, ju, ac, ep, to, pr, ba, le, lg) = false → ∀ u', sx_T T u' → sx_L (lj_wr (mu, ju, ac, ep, to, pr, ba, le, lg) 5 i (8 * d + x) 1) u' → sx_D (nu, st, un, ua) u' → post (-3) u') : wpX_move post u p q r := by
  obtain ⟨f_active, f_epoch, a_dataNodeDown, a_journalDown, a_masterDown, a_inTouch, a_promise, a_base, a_logLength, a_logEpoch, a_logKind, a_logA, a_logB, a_logC, a_inodeState, a_inodePlace, a_inodeClient, a_closeUnits, a_rowLength, a_rowBlock, a_blockStamp, a_replicaHeld, a_replicaStamp, a_unitCount, a_unitValue⟩ := u
  have i5 := hiv.2.2.2.2.1
  refine cd_if (xm_act hL.1 hiv.2.1) k0 (fun za => ?_)
  have ha : 0 < ac := by omega
  refine xm_isPresent (u := (f_active, f_epoch, a_dataNodeDown, a_journalDown, a_masterDown, a_inTouch, a_promise, a_base, a_logLength, a_logEpoch, a_logKind, a_logA, a_logB, a_logC, a_inodeState, a_inodePlace, a_inodeClient, a_closeUnits, a_rowLength, a_rowBlock, a_blockStamp, a_replicaHeld, a_replicaStamp, a_unitCount, a_unitValue)) h hI hi (fun hlt hs => br_f bo_1 ?_) (fun hs => br_t rfl (k1 ha (fun z => z.2.2.1 (hs z.2.1))))
  have e := ix_i hi hlt
  subst e
  refine cd_if (nI_eq (b := 0) (by omega) (by decide)) (fun z => k1 ha (fun y => by have := y.1; omega)) (fun z => ?_)
  refine xm_isFreePlace (u := (f_active, f_epoch, a_dataNodeDown, a_journalDown, a_masterDown, a_inTouch, a_promise, a_base, a_logLength, a_logEpoch, a_logKind, a_logA, a_logB, a_logC, a_inodeState, a_inodePlace, a_inodeClient, a_closeUnits, a_rowLength, a_rowBlock, a_blockStamp, a_replicaHeld, a_replicaStamp, a_unitCount, a_unitValue)) h hI hd hx (fun hf => br_f bo_1 ?_) (fun hf => br_t rfl (k1 ha (fun y => hf y.2.2.2.1)))
  have e1 := ix_i hd hf.1
  have e2 := ix_i hx hf.2.1
  subst e1 e2
  refine xm_isAtOrBelow (u := (f_active, f_epoch, a_dataNodeDown, a_journalDown, a_masterDown, a_inTouch, a_promise, a_base, a_logLength, a_logEpoch, a_logKind, a_logA, a_logB, a_logC, a_inodeState, a_inodePlace, a_inodeClient, a_closeUnits, a_rowLength, a_rowBlock, a_blockStamp, a_replicaHeld, a_replicaStamp, a_unitCount, a_unitValue)) h hI hf.1 (by rw [hf.2.2.1]; decide) (by omega) hlt (fun y => br_f bo_1 (k1 ha (fun w => w.2.2.2.2 _ y.choose_spec))) (fun y => br_t rfl ?_)
  have hm : qt_mv T i d x := ⟨by omega, hlt, hs, hf, y⟩
  refine xm_logsLackRoom (u := (f_active, f_epoch, a_dataNodeDown, a_journalDown, a_masterDown, a_inTouch, a_promise, a_base, a_logLength, a_logEpoch, a_logKind, a_logA, a_logB, a_logC, a_inodeState, a_inodePlace, a_inodeClient, a_closeUnits, a_rowLength, a_rowBlock, a_blockStamp, a_replicaHeld, a_replicaStamp, a_unitCount, a_unitValue)) hL (fun j hj => ⟨(i5 j hj).2.1, (i5 j hj).2.2.2⟩) (R := 1) (by decide) (fun z => br_f bo_1 (k2 ha hm z)) (fun z => br_t rfl ?_)
  rw [show nI d * 8 + nI x = nI (8 * d + x) from mu_r d 8 x]
  refine xm_writeRecord1 (u := (f_active, f_epoch, a_dataNodeDown, a_journalDown, a_masterDown, a_inTouch, a_promise, a_base, a_logLength, a_logEpoch, a_logKind, a_logA, a_logB, a_logC, a_inodeState, a_inodePlace, a_inodeClient, a_closeUnits, a_rowLength, a_rowBlock, a_blockStamp, a_replicaHeld, a_replicaStamp, a_unitCount, a_unitValue)) (q := 5) h hI hL hD ha hiv z (qt_okMove he hm) (fun hk => ?_) (fun hk => ?_)
  · rintro ⟨f_active, f_epoch, a_dataNodeDown, a_journalDown, a_masterDown, a_inTouch, a_promise, a_base, a_logLength, a_logEpoch, a_logKind, a_logA, a_logB, a_logC, a_inodeState, a_inodePlace, a_inodeClient, a_closeUnits, a_rowLength, a_rowBlock, a_blockStamp, a_replicaHeld, a_replicaStamp, a_unitCount, a_unitValue⟩ g1 g2 g3
    exact br_f bo_1 (k3 ha hm z hk _ g1 g2 g3)
  · rintro ⟨f_active, f_epoch, a_dataNodeDown, a_journalDown, a_masterDown, a_inTouch, a_promise, a_base, a_logLength, a_logEpoch, a_logKind, a_logA, a_logB, a_logC, a_inodeState, a_inodePlace, a_inodeClient, a_closeUnits, a_rowLength, a_rowBlock, a_blockStamp, a_replicaHeld, a_replicaStamp, a_unitCount, a_unitValue⟩ g1 g2 g3
    exact br_t rfl (k4 ha hm z hk _ g1 g2 g3)
theorem ym_move {k : Nat} {v : SY} (hI : qt_iv T) (hL : sy_L (mu, ju, ac, ep, to, pr, ba, le, lg) v) (hD : sy_D (nu, st, un, ua) v) (hiv : lj_iv k (mu, ju, ac, ep, to, pr, ba, le, lg) T) (he : ep ≤ 512) {post : Int32 → SY → Prop} {p q r : Int32} {i d x : Nat} (hi : ix_c p 12 i) (hd : ix_c q 12 d) (hx : ix_c r 8 x)
    (k0 : ac = 0 → post (-1) v) (k1 : 0 < ac → ¬ qt_mv T i d x → ∀ v', sy_L (mu, ju, ac, ep, to, pr, ba, le, lg) v' → sy_D (nu, st, un, ua) v' → post (-2) v') (k2 : 0 < ac → qt_mv T i d x → ¬ lj_rm (mu, ju, ac, ep, to, pr, ba, le, lg) 1 → ∀ v', sy_L (mu, ju, ac, ep, to, pr, ba, le, lg) v' → sy_D (nu, st, un, ua) v' → post (-4) v')
    (k3 : 0 < ac → qt_mv T i d x → lj_rm (mu, ju, ac, ep, to, pr, ba, le, lg) 1 → lj_kept (mu, ju, ac, ep, to, pr, ba, le, lg) = true → ∀ v', sy_L (lj_wr (mu, ju, ac, ep, to, pr, ba, le, lg) 5 i (8 * d + x) 1) v' → sy_D (nu, st, un, ua) v' → post 0 v')
    (k4 : 0 < ac → qt_mv T i d x → lj_rm (mu, ju, ac, ep, to, pr, ba, le, lg) 1 → lj_kept (mu, ju, ac, ep, to, pr, ba, le, lg) = false → ∀ v', sy_L (lj_wr (mu, ju, ac, ep, to, pr, ba, le, lg) 5 i (8 * d + x) 1) v' → sy_D (nu, st, un, ua) v' → post (-3) v') : wpY_move post v p q r := by
  obtain ⟨f_active, f_epoch, a_nodeUp, a_journalUp, a_masterUp, a_touch, a_log, a_many, a_promise, a_base, a_stamp, a_units, a_unit, a_sort, a_placeOf, a_client, a_rowLength, a_row, a_closedWith, a_stampOf⟩ := v
  have i5 := hiv.2.2.2.2.1
  refine cd_if (ym_act hL.1 hiv.2.1) (fun ha => ym_tell (v := (f_active, f_epoch, a_nodeUp, a_journalUp, a_masterUp, a_touch, a_log, a_many, a_promise, a_base, a_stamp, a_units, a_unit, a_sort, a_placeOf, a_client, a_rowLength, a_row, a_closedWith, a_stampOf)) hL hD (fun j hj => ⟨(i5 j hj).1, (i5 j hj).2.2.2⟩) ?_) (fun za => k0 (by omega))
  rintro ⟨f_active, f_epoch, a_nodeUp, a_journalUp, a_masterUp, a_touch, a_log, a_many, a_promise, a_base, a_stamp, a_units, a_unit, a_sort, a_placeOf, a_client, a_rowLength, a_row, a_closedWith, a_stampOf⟩ gT gL gD
  rw [← (hiv.2.2.2.2.2 ha).2.2] at gT
  have body : ∀ f : Int32, (¬ f = 0 ↔ qt_fr T d x) → wpY_in (fun r_44 => (((r_44 = 0 → (post (-2) (f_active, f_epoch, a_nodeUp, a_journalUp, a_masterUp, a_touch, a_log, a_many, a_promise, a_base, a_stamp, a_units, a_unit, a_sort, a_placeOf, a_client, a_rowLength, a_row, a_closedWith, a_stampOf))) ∧ (¬ r_44 = 0 → (((p = 0 → (post (-2) (f_active, f_epoch, a_nodeUp, a_journalUp, a_masterUp, a_touch, a_log, a_many, a_promise, a_base, a_stamp, a_units, a_unit, a_sort, a_placeOf, a_client, a_rowLength, a_row, a_closedWith, a_stampOf))) ∧ (¬ p = 0 → (vp_in p 12 ∧ ((((a_sort p.toNatClampNeg) = 0 → (post (-2) (f_active, f_epoch, a_nodeUp, a_journalUp, a_masterUp, a_touch, a_log, a_many, a_promise, a_base, a_stamp, a_units, a_unit, a_sort, a_placeOf, a_client, a_rowLength, a_row, a_closedWith, a_stampOf))) ∧ (¬ (a_sort p.toNatClampNeg) = 0 → (((f = 0 → (post (-2) (f_active, f_epoch, a_nodeUp, a_journalUp, a_masterUp, a_touch, a_log, a_many, a_promise, a_base, a_stamp, a_units, a_unit, a_sort, a_placeOf, a_client, a_rowLength, a_row, a_closedWith, a_stampOf))) ∧ (¬ f = 0 → (∃ n54 : Nat, wY_move_54 post p q r f_active f_epoch a_nodeUp a_journalUp a_masterUp a_touch a_log a_many a_promise a_base a_stamp a_units a_unit a_sort a_placeOf a_client a_rowLength a_row a_closedWith a_stampOf n54 q))))))))))))))) p 12 := by
    intro f hff
    refine ym_in hi (by decide) rfl (fun hlt => br_f bo_1 ?_) (fun e => br_t rfl (k1 ha (fun z => by have := z.2.1; omega) _ gL gD))
    have e := ix_i hi hlt
    subst e
    have hb := qt_iv3 hI i hlt
    have hv := vp_in_nI hlt (by decide : 12 < 2 ^ 31)
    refine cd_if (nI_eq (b := 0) (by omega) (by decide)) (fun z => k1 ha (fun y => by have := y.1; omega) _ gL gD) (fun z => ⟨hv, cd_if (cd_e (c := 0) (qt_ag1 gT i hlt) (by omega) (by omega) (by decide)) (fun y => k1 ha (fun w => w.2.2.1 y) _ gL gD) (fun y => ?_)⟩)
    refine cd_if (c := f = 0) (d := ¬ qt_fr T d x) ⟨fun w v => hff.mpr v w, fun w => Classical.byContradiction (fun v => w (hff.mp v))⟩ (fun w => k1 ha (fun v => w v.2.2.2.1) _ gL gD) (fun w => ?_)
    have hf : qt_fr T d x := Classical.byContradiction w
    have e1 := ix_i hd hf.1
    have e2 := ix_i hx hf.2.1
    subst e1 e2
    obtain ⟨rk, hr, hrb⟩ := qt_iv7 hI
    have s80 : ∀ x5, x5 < 12 → (x5 = i → ∃ n, qt_an (qt_pl T) n d = i) → (x5 ≠ i → ∀ n, qt_an (qt_pl T) n d ≠ i) → wY_move_80 post (nI i) (nI d) (nI x) (nI x5) f_active f_epoch a_nodeUp a_journalUp a_masterUp a_touch a_log a_many a_promise a_base a_stamp a_units a_unit a_sort a_placeOf a_client a_rowLength a_row a_closedWith a_stampOf := by
      intro x5 hx5 a1 a2
      refine cd_if (nI_eq (by omega) (by omega)) (fun w => k1 ha (fun v => ?_) _ gL gD) (fun w => ?_)
      · obtain ⟨n, hn⟩ := a1 w
        exact v.2.2.2.2 n hn
      · have hm : qt_mv T i d x := ⟨by omega, hlt, y, hf, a2 w⟩
        refine ym_tooMany (v := (f_active, f_epoch, a_nodeUp, a_journalUp, a_masterUp, a_touch, a_log, a_many, a_promise, a_base, a_stamp, a_units, a_unit, a_sort, a_placeOf, a_client, a_rowLength, a_row, a_closedWith, a_stampOf)) gL (fun j hj => ⟨(i5 j hj).2.1, (i5 j hj).2.2.2⟩) (R := 1) (by decide) (fun z => br_f bo_1 (k2 ha hm z _ gL gD)) (fun z => br_t rfl ?_)
        rw [show 8 * nI d + nI x = nI (8 * d + x) from mu_l d 8 x]
        have hf1 := hf.1
        have hf2 := hf.2.1
        refine ym_write1 (v := (f_active, f_epoch, a_nodeUp, a_journalUp, a_masterUp, a_touch, a_log, a_many, a_promise, a_base, a_stamp, a_units, a_unit, a_sort, a_placeOf, a_client, a_rowLength, a_row, a_closedWith, a_stampOf)) (q := 5) gL gD (fun j hj => (i5 j hj).2.2.2) (qt_rbI he (by decide) (by omega) (by omega) (by decide)) (fun hk => ?_) (fun hk => ?_)
        · rintro ⟨f_active, f_epoch, a_nodeUp, a_journalUp, a_masterUp, a_touch, a_log, a_many, a_promise, a_base, a_stamp, a_units, a_unit, a_sort, a_placeOf, a_client, a_rowLength, a_row, a_closedWith, a_stampOf⟩ g2 g3
          exact br_f bo_1 (k3 ha hm z hk _ g2 g3)
        · rintro ⟨f_active, f_epoch, a_nodeUp, a_journalUp, a_masterUp, a_touch, a_log, a_many, a_promise, a_base, a_stamp, a_units, a_unit, a_sort, a_placeOf, a_client, a_rowLength, a_row, a_closedWith, a_stampOf⟩ g2 g3
          exact br_t rfl (k4 ha hm z hk _ g2 g3)
    have key : ∀ k n x5, rk x5 < k → k ≤ n → x5 < 12 → qt_so T x5 ≠ 0 → (∃ m, qt_an (qt_pl T) m d = x5) → (∀ m n : Nat, qt_an (qt_pl T) m d = x5 → (∃ n, qt_an (qt_pl T) n d = i) → ∃ n, qt_an (qt_pl T) n x5 = i) → wY_move_54 post (nI i) (nI d) (nI x) f_active f_epoch a_nodeUp a_journalUp a_masterUp a_touch a_log a_many a_promise a_base a_stamp a_units a_unit a_sort a_placeOf a_client a_rowLength a_row a_closedWith a_stampOf n (nI x5) := by
      intro k
      induction k with
      | zero => intro n x5 hz; omega
      | succ k ih =>
        intro n x5 hrx hn hx5 hsx ⟨m, hm⟩ hback
        obtain ⟨n, rfl⟩ : ∃ n', n = n' + 1 := ⟨n - 1, by omega⟩
        have h0s : ∀ n, qt_an (qt_pl T) n 0 = 0 := by
          intro n
          induction n with
          | zero => rfl
          | succ n ih =>
            rw [qt_anS, show qt_pa (qt_pl T) 0 = 0 by unfold qt_pa; rw [qt_iv2 hI]]
            exact ih
        refine cd_if (nI_eq (b := 0) (by omega) (by decide)) (fun w => s80 x5 hx5 (fun v => ⟨m, by rw [hm, v]⟩) (fun v n hn => ?_)) (fun w => cd_if (nI_eq (by omega) (by omega)) (fun v => s80 x5 hx5 (fun _ => ⟨m, by rw [hm, v]⟩) (fun v' => absurd v v')) (fun v => ⟨vp_in_nI hx5 (by decide), by decide, ?_⟩))
        · obtain ⟨n', hn'⟩ := hback m 0 hm ⟨n, hn⟩
          rw [w, h0s] at hn'
          omega
        · have h6 := qt_iv6 hI x5 (by omega) hx5 hsx
          have e : a_placeOf (nI x5).toNatClampNeg / 8 = nI (qt_pa (qt_pl T) x5) := by
            rw [nI_clamp (by omega), qt_ag2 gT x5 hx5]
            obtain ⟨p, hp⟩ : ∃ p, qt_pl T x5 = p + 1 := ⟨qt_pl T x5 - 1, by omega⟩
            unfold qt_pa
            rw [hp, qt_ms]
            exact pk_div (d := 8) (by omega) (by decide) (by decide)
          have han : ∀ m y, qt_an (qt_pl T) (m + 1) y = qt_pa (qt_pl T) (qt_an (qt_pl T) m y) := by
            intro m
            induction m with
            | zero => intro y; rfl
            | succ m ih => intro y; rw [qt_anS, ih, ← qt_anS]
          refine nm_r e (ih n _ ?_ (by omega) (by unfold qt_pa; omega) (by rw [h6.2.2]; decide) ⟨m + 1, by rw [han, hm]⟩ (fun m' n' hm' hex => ?_))
          · have := hr x5 (by omega) hx5 hsx; omega
          · obtain ⟨n2, hn2⟩ := hback m 0 hm hex
            cases n2 with
            | zero => exact absurd hn2 v
            | succ n2 => exact ⟨n2, hn2⟩
    exact ⟨12, key 12 12 d (hrb d hf.1) (by omega) hf.1 (by rw [hf.2.2.1]; decide) ⟨0, rfl⟩ (fun m n _ hex => hex)⟩
  exact ym_isFree (v := (f_active, f_epoch, a_nodeUp, a_journalUp, a_masterUp, a_touch, a_log, a_many, a_promise, a_base, a_stamp, a_units, a_unit, a_sort, a_placeOf, a_client, a_rowLength, a_row, a_closedWith, a_stampOf)) gT hI hd hx (fun hf => body 1 ⟨fun _ => hf, fun _ => bo_1⟩) (fun hf => body 0 ⟨fun z => absurd rfl z, fun z => absurd z hf⟩)
end
theorem i_vc_remove {k : Nat} {u : SX} {v : SY} (I : i_Rel k u v) (hk : k + 4 ≤ 2048) (v1 : Int32) : wpX_remove (fun r u' => wpY_remove (fun r' v' => r' = r ∧ i_Rel (k + 4) u' v') v v1) u v1 := by
  have I' := i_up I
  obtain ⟨T, ⟨mu, ju, ac, ep, to, pr, ba, le, lg⟩, ⟨nu, st, un, ua⟩, h1, h2, h3, h4, h5, h6, h7, h8⟩ := I
  have he : ep ≤ 512 := rl_ep h7 (by omega)
  obtain ⟨n, hn⟩ := ix_e v1 (N := 12) (by decide)
  have R0 : ∀ v', sy_L (mu, ju, ac, ep, to, pr, ba, le, lg) v' → sy_D (nu, st, un, ua) v' → i_Rel (k + 4) u v' := fun v' g1 g2 => ⟨T, _, _, h1, h2, h3, g1, g2, h6, lj_ivK (by omega) h7, h8⟩
  refine xm_remove h1 h6 h2 h3 h7 he hn (fun a => ?_) (fun a b => ?_) (fun a b e => ?_) (fun a b g hkp u' g1 g2 g3 => ?_) (fun a b g hkp u' g1 g2 g3 => ?_)
  · exact ym_remove h6 h4 h5 h7 he hn (fun _ => ⟨rfl, I'⟩) (by intros; omega) (by intros; omega) (by intros; omega) (by intros; omega)
  · exact ym_remove h6 h4 h5 h7 he hn (by intros; omega) (fun _ _ v' m1 m2 => ⟨rfl, R0 v' m1 m2⟩) (by intros; contradiction) (by intros; contradiction) (by intros; contradiction)
  · exact ym_remove h6 h4 h5 h7 he hn (by intros; omega) (by intros; contradiction) (fun _ _ _ v' m1 m2 => ⟨rfl, R0 v' m1 m2⟩) (by intros; contradiction) (by intros; contradiction)
  · have ho := qt_okRemove h6 he b
    have W := lj_wrI h7 a g ho
    rw [if_pos hkp] at W
    have hlen : lj_len (mu, ju, ac, ep, to, pr, ba, le, lg) < 1000 := lj_rmL h7 a g
    exact ym_remove h6 h4 h5 h7 he hn (by intros; omega) (by intros; contradiction) (by intros; contradiction) (fun _ _ _ _ v' m1 m2 => ⟨rfl, _, _, _, g1, g2, g3, m1, m2, qt_ivAp h6 ho hlen, lj_ivK (by omega) W, rd_wrI h7 a (fun c hc => by have := rd_ivS h8 a c hc; omega) h8.2⟩) (by intros; simp_all)
  · have ho := qt_okRemove h6 he b
    have W := lj_wrI h7 a g ho
    rw [if_neg (by rw [hkp]; decide)] at W
    exact ym_remove h6 h4 h5 h7 he hn (by intros; omega) (by intros; contradiction) (by intros; contradiction) (by intros; simp_all) (fun _ _ _ _ v' m1 m2 => ⟨rfl, _, _, _, g1, g2, g3, m1, m2, h6, lj_ivK (by omega) W, rd_wrI h7 a (fun c hc => by have := rd_ivS h8 a c hc; omega) h8.2⟩)
theorem i_vc_move {k : Nat} {u : SX} {v : SY} (I : i_Rel k u v) (hk : k + 4 ≤ 2048) (v1 : Int32) (v2 : Int32) (v3 : Int32) : wpX_move (fun r u' => wpY_move (fun r' v' => r' = r ∧ i_Rel (k + 4) u' v') v v1 v2 v3) u v1 v2 v3 := by
  have I' := i_up I
  obtain ⟨T, ⟨mu, ju, ac, ep, to, pr, ba, le, lg⟩, ⟨nu, st, un, ua⟩, h1, h2, h3, h4, h5, h6, h7, h8⟩ := I
  have he : ep ≤ 512 := rl_ep h7 (by omega)
  obtain ⟨i, hi⟩ := ix_e v1 (N := 12) (by decide)
  obtain ⟨d, hd⟩ := ix_e v2 (N := 12) (by decide)
  obtain ⟨x, hx⟩ := ix_e v3 (N := 8) (by decide)
  have R0 : ∀ v', sy_L (mu, ju, ac, ep, to, pr, ba, le, lg) v' → sy_D (nu, st, un, ua) v' → i_Rel (k + 4) u v' := fun v' g1 g2 => ⟨T, _, _, h1, h2, h3, g1, g2, h6, lj_ivK (by omega) h7, h8⟩
  refine xm_move h1 h6 h2 h3 h7 he hi hd hx (fun a => ?_) (fun a b => ?_) (fun a b e => ?_) (fun a b g hkp u' g1 g2 g3 => ?_) (fun a b g hkp u' g1 g2 g3 => ?_)
  · exact ym_move h6 h4 h5 h7 he hi hd hx (fun _ => ⟨rfl, I'⟩) (by intros; omega) (by intros; omega) (by intros; omega) (by intros; omega)
  · exact ym_move h6 h4 h5 h7 he hi hd hx (by intros; omega) (fun _ _ v' m1 m2 => ⟨rfl, R0 v' m1 m2⟩) (by intros; contradiction) (by intros; contradiction) (by intros; contradiction)
  · exact ym_move h6 h4 h5 h7 he hi hd hx (by intros; omega) (by intros; contradiction) (fun _ _ _ v' m1 m2 => ⟨rfl, R0 v' m1 m2⟩) (by intros; contradiction) (by intros; contradiction)
  · have ho := qt_okMove he b
    have W := lj_wrI h7 a g ho
    rw [if_pos hkp] at W
    have hlen : lj_len (mu, ju, ac, ep, to, pr, ba, le, lg) < 1000 := lj_rmL h7 a g
    exact ym_move h6 h4 h5 h7 he hi hd hx (by intros; omega) (by intros; contradiction) (by intros; contradiction) (fun _ _ _ _ v' m1 m2 => ⟨rfl, _, _, _, g1, g2, g3, m1, m2, qt_ivAp h6 ho hlen, lj_ivK (by omega) W, rd_wrI h7 a (fun c hc => by have := rd_ivS h8 a c hc; omega) h8.2⟩) (by intros; simp_all)
  · have ho := qt_okMove he b
    have W := lj_wrI h7 a g ho
    rw [if_neg (by rw [hkp]; decide)] at W
    exact ym_move h6 h4 h5 h7 he hi hd hx (by intros; omega) (by intros; contradiction) (by intros; contradiction) (by intros; simp_all) (fun _ _ _ _ v' m1 m2 => ⟨rfl, _, _, _, g1, g2, g3, m1, m2, h6, lj_ivK (by omega) W, rd_wrI h7 a (fun c hc => by have := rd_ivS h8 a c hc; omega) h8.2⟩)
end
section
/-! read, block -/
theorem nu_ne (x : Int32) : ¬ x.toInt64 = 10000000000 := by
  intro h
  have h1 : x.toInt64.toInt = (10000000000 : Int64).toInt := by rw [h]
  rw [Int32.toInt_toInt64, show (10000000000 : Int64).toInt = 10000000000 by decide] at h1
  have := Int32.toInt_lt x
  omega
theorem qt_NmL {a s : Nat} (ha : a < 2 ^ 31) (hs : s < 2 ^ 31) : nI s < qt_m a ↔ s + 1 < a := by
  rw [Int32.lt_iff_toInt_lt, qt_mT ha, nI_toInt hs]; omega
/-- the b of CLOSE leaves unit J out -/
def qt_lim (T : qt_T) (n J : Nat) : Prop := qt_so T n = 3 ∧ qt_cw T n ≠ 0 ∧ J / 8 = qt_rl T n - 1 ∧ qt_cw T n ≤ J % 8
/-- unit J of file n is found -/
def rd_fd (T : qt_T) (nu : Nat → Bool) (st un : Nat → Nat) (n J : Nat) : Prop := J / 8 < qt_rl T n ∧ ¬ qt_lim T n J ∧ J % 8 + 1 < rd_fw (rd_g nu st (qt_ro T (3 * n + J / 8)) (qt_sp T (qt_ro T (3 * n + J / 8)))) un (qt_ro T (3 * n + J / 8)) 5
theorem rd_fwX {f : Nat → Bool} {un : Nat → Nat} {b m : Nat} (hm : ls_f (fun d => f d = true) 5 m) : 0 < rd_fw f un b 5 → m < 5 := by
  intro h
  by_cases hl : m < 5
  · exact hl
  · exfalso
    have e : m = 5 := by have := hm.1; omega
    subst e
    have : rd_fw f un b 5 = 0 := rd_fw0 (fun d hd => by have := hm.2.1 d hd; simpa using this)
    omega
section
variable {T : qt_T} {mu ju : Nat → Bool} {ac ep : Nat} {to : Nat → Bool} {pr ba le : Nat → Nat} {lg : Nat → Nat → qt_R} {nu : Nat → Bool} {st un : Nat → Nat} {ua : Nat → Int32}
theorem xm_findUnit {u : SX} (h : sx_T T u) (hI : qt_iv T) (hD : sx_D (nu, st, un, ua) u) (hb : rd_bd (nu, st, un, ua)) {post : Int64 → Prop} {n J : Nat} (hn : n < 12) (hJ : J < 2 ^ 31) (h0 : ¬ rd_fd T nu st un n J → post 10000000000)
    (h1 : rd_fd T nu st un n J → ∀ m, m < 5 → ls_f (fun d => rd_g nu st (qt_ro T (3 * n + J / 8)) (qt_sp T (qt_ro T (3 * n + J / 8))) d = true) 5 m → post (ua (8 * (16 * m + qt_ro T (3 * n + J / 8)) + J % 8)).toInt64) : wpX_findUnit post u (nI n) (nI J) := by
  obtain ⟨f_active, f_epoch, a_dataNodeDown, a_journalDown, a_masterDown, a_inTouch, a_promise, a_base, a_logLength, a_logEpoch, a_logKind, a_logA, a_logB, a_logC, a_inodeState, a_inodePlace, a_inodeClient, a_closeUnits, a_rowLength, a_rowBlock, a_blockStamp, a_replicaHeld, a_replicaStamp, a_unitCount, a_unitValue⟩ := u
  have hv := vp_in_nI hn (by decide : 12 < 2 ^ 31)
  have hc : (nI n).toNatClampNeg = n := nI_clamp (by omega)
  have hr := qt_iv4 hI n hn
  have hcw := qt_iv10 hI n hn
  have hs3 := qt_iv3 hI n hn
  have e8 : nI J / 8 = nI (J / 8) := pk_div (d := 8) hJ (by decide) (by decide)
  have er : nI J - nI (J / 8) * 8 = nI (J % 8) := by
    have := pk_rem (d := 8) hJ (by decide) (by decide)
    rw [show (nI 8) = (8 : Int32) from rfl, e8] at this
    exact this
  have el : a_rowLength n = nI (qt_rl T n) := qt_ag5 h n hn
  have es : a_inodeState n = nI (qt_so T n) := qt_ag1 h n hn
  refine br_f (nI_pos hJ) ⟨by decide, hv, ?_⟩
  rw [e8, er, hc, el, es]
  have hJ8 : J / 8 < 2 ^ 31 := by omega
  refine cd_if (nI_ltI hJ8 (by omega)) (fun z => ⟨by decide, nm_e ⟨by decide, nm_e ⟨hv, ?_⟩⟩⟩) (fun z => h0 (fun y => z y.1))
  have h5 := qt_iv5 hI n (J / 8) hn z
  have s90 : ¬ qt_lim T n J → wX_findUnit_90 post (nI n) (nI (J / 8)) (nI (J % 8)) f_active f_epoch a_dataNodeDown a_journalDown a_masterDown a_inTouch a_promise a_base a_logLength a_logEpoch a_logKind a_logA a_logB a_logC a_inodeState a_inodePlace a_inodeClient a_closeUnits a_rowLength a_rowBlock a_blockStamp a_replicaHeld a_replicaStamp a_unitCount a_unitValue := by
    intro hlim
    refine (show vp_in (nI n * 3 + nI (J / 8)) 36 ∧ _ from ?_)
    rw [show nI n * 3 + nI (J / 8) = nI (3 * n + J / 8) from mu_r n 3 (J / 8)]
    refine ⟨vp_in_nI (by omega) (by decide), nm_r (e' := nI (qt_ro T (3 * n + J / 8))) (by rw [nI_clamp (by omega)]; exact qt_ag6 h n (J / 8) hn z) ?_⟩
    generalize hbb : qt_ro T (3 * n + J / 8) = b at h5 h1
    obtain ⟨m, hm⟩ := ls_ex (fun d => rd_g nu st b (qt_sp T b) d = true) 5
    refine xm_firstGoodNode (u := (f_active, f_epoch, a_dataNodeDown, a_journalDown, a_masterDown, a_inTouch, a_promise, a_base, a_logLength, a_logEpoch, a_logKind, a_logA, a_logB, a_logC, a_inodeState, a_inodePlace, a_inodeClient, a_closeUnits, a_rowLength, a_rowBlock, a_blockStamp, a_replicaHeld, a_replicaStamp, a_unitCount, a_unitValue)) h hI hD hb h5 hm ?_
    have hw := rd_fwB (f := rd_g nu st b (qt_sp T b)) h5 hb.2 (n := 5) (by omega)
    by_cases hlt : m < 5
    · rw [ls_vS hlt]
      refine br_f (ix_m1 (by omega)) (xm_fewestUnits (u := (f_active, f_epoch, a_dataNodeDown, a_journalDown, a_masterDown, a_inTouch, a_promise, a_base, a_logLength, a_logEpoch, a_logKind, a_logA, a_logB, a_logC, a_inodeState, a_inodePlace, a_inodeClient, a_closeUnits, a_rowLength, a_rowBlock, a_blockStamp, a_replicaHeld, a_replicaStamp, a_unitCount, a_unitValue)) h hI hD hb h5 (cd_if (qt_NmL (by omega) (by omega)) (fun y => ?_) (fun y => h0 (fun x => ?_))))
      · refine nm_r (mu_r m 16 b) ?_
        rw [show nI (16 * m + b) * 8 + nI (J % 8) = nI (8 * (16 * m + b) + J % 8) from mu_r _ 8 _]
        refine ⟨vp_in_nI (by omega) (by decide), ?_⟩
        rw [nI_clamp (by omega), hD.2.2.2.2]
        exact h1 ⟨z, hlim, by rw [hbb]; exact y⟩ m hlt hm
      · obtain ⟨x1, x2, x3⟩ := x
        rw [hbb] at x3
        exact y x3
    · have e : m = 5 := by have := hm.1; omega
      subst e
      rw [ls_vN]
      refine br_t rfl (h0 (fun x => ?_))
      obtain ⟨x1, x2, x3⟩ := x
      rw [hbb] at x3
      exact hlt (rd_fwX (un := un) (b := b) hm (by omega))
  have s67 : ¬ qt_lim T n J → wX_findUnit_67 post (nI n) (nI (J / 8)) (nI (J % 8)) f_active f_epoch a_dataNodeDown a_journalDown a_masterDown a_inTouch a_promise a_base a_logLength a_logEpoch a_logKind a_logA a_logB a_logC a_inodeState a_inodePlace a_inodeClient a_closeUnits a_rowLength a_rowBlock a_blockStamp a_replicaHeld a_replicaStamp a_unitCount a_unitValue := fun hlim => br_t rfl (s90 hlim)
  refine cd_if (nI_eq (b := 3) (by omega) (by decide)) (fun y => ⟨hv, ?_⟩) (fun y => s67 (fun w => y w.1))
  have ew : a_closeUnits n = nI (qt_cw T n) := qt_ag4 h n hn y
  rw [ew]
  refine cd_if (nI_eq (b := 0) (by omega) (by decide)) (fun x => s67 (fun w => w.2.1 x)) (fun x => ⟨hv, ?_⟩)
  have e1 : nI (qt_rl T n) - 1 = nI (qt_rl T n - 1) := by
    obtain ⟨l, hl⟩ : ∃ l, qt_rl T n = l + 1 := ⟨qt_rl T n - 1, by omega⟩
    rw [hl, nI_pred]; rfl
  rw [e1]
  refine cd_if (nI_eq hJ8 (by omega)) (fun w => br_f bo_1 ⟨hv, ?_⟩) (fun w => s67 (fun v => w v.2.2.1))
  rw [hc, ew]
  exact cd_if (nI_ltI (by omega) (by omega)) (fun v => s90 (fun q => by have := q.2.2.2; omega)) (fun v => h0 (fun q => q.2.1 ⟨y, x, w, by omega⟩))
theorem ym_found {v : SY} (h : sy_T T v) (hI : qt_iv T) (hD : sy_D (nu, st, un, ua) v) (hb : rd_bd (nu, st, un, ua)) {post : Int64 → Prop} {n J : Nat} (hn : n < 12) (hs : 2 ≤ qt_so T n) (hJ : J < 2 ^ 31) (h0 : ¬ rd_fd T nu st un n J → post 10000000000)
    (h1 : rd_fd T nu st un n J → ∀ m, m < 5 → ls_f (fun d => rd_g nu st (qt_ro T (3 * n + J / 8)) (qt_sp T (qt_ro T (3 * n + J / 8))) d = true) 5 m → post (ua (8 * (16 * m + qt_ro T (3 * n + J / 8)) + J % 8)).toInt64) : wpY_found post v (nI n) (nI J) := by
  obtain ⟨f_active, f_epoch, a_nodeUp, a_journalUp, a_masterUp, a_touch, a_log, a_many, a_promise, a_base, a_stamp, a_units, a_unit, a_sort, a_placeOf, a_client, a_rowLength, a_row, a_closedWith, a_stampOf⟩ := v
  unfold wpY_found
  have hv := vp_in_nI hn (by decide : 12 < 2 ^ 31)
  have hc : (nI n).toNatClampNeg = n := nI_clamp (by omega)
  have hr := qt_iv4 hI n hn
  have hcw := qt_iv10 hI n hn
  have hs3 := qt_iv3 hI n hn
  have e8 : nI J / 8 = nI (J / 8) := pk_div (d := 8) hJ (by decide) (by decide)
  have er : nI J - nI (J / 8) * 8 = nI (J % 8) := by
    have := pk_rem (d := 8) hJ (by decide) (by decide)
    rw [show (nI 8) = (8 : Int32) from rfl, e8] at this
    exact this
  have el : a_rowLength n = nI (qt_rl T n) := qt_ag5 h n hn
  have es : a_sort n = nI (qt_so T n) := qt_ag1 h n hn
  refine ym_isFile (v := (f_active, f_epoch, a_nodeUp, a_journalUp, a_masterUp, a_touch, a_log, a_many, a_promise, a_base, a_stamp, a_units, a_unit, a_sort, a_placeOf, a_client, a_rowLength, a_row, a_closedWith, a_stampOf)) h hI (n := n) (Or.inl ⟨hn, rfl⟩) (fun _ _ => br_f bo_1 (br_f (nI_pos hJ) ⟨by decide, hv, ?_⟩)) (fun z => absurd (z hn) (by omega))
  rw [e8, er, hc, el, es]
  have hJ8 : J / 8 < 2 ^ 31 := by omega
  refine cd_if (nI_ltI hJ8 (by omega)) (fun z => ⟨by decide, ?_⟩) (fun z => h0 (fun y => z y.1))
  have h5 := qt_iv5 hI n (J / 8) hn z
  rw [show 3 * nI n + nI (J / 8) = nI (3 * n + J / 8) from mu_l n 3 (J / 8)]
  refine ⟨vp_in_nI (by omega) (by decide), nm_r (e' := nI (qt_ro T (3 * n + J / 8))) (by rw [nI_clamp (by omega)]; exact qt_ag6 h n (J / 8) hn z) ?_⟩
  have hin : qt_in (qt_rl T) (qt_ro T) (qt_ro T (3 * n + J / 8)) := ⟨n, J / 8, hn, z, rfl⟩
  generalize hbb : qt_ro T (3 * n + J / 8) = b at h5 h1 hin
  obtain ⟨m, hm⟩ := ls_ex (fun d => rd_g nu st b (qt_sp T b) d = true) 5
  refine ym_first (v := (f_active, f_epoch, a_nodeUp, a_journalUp, a_masterUp, a_touch, a_log, a_many, a_promise, a_base, a_stamp, a_units, a_unit, a_sort, a_placeOf, a_client, a_rowLength, a_row, a_closedWith, a_stampOf)) h hI hD hb h5 hin hm ?_
  have hw := rd_fwB (f := rd_g nu st b (qt_sp T b)) h5 hb.2 (n := 5) (by omega)
  by_cases hlt : m < 5
  · rw [ls_vS hlt]
    refine br_f (nI_pos (by omega)) (ym_bound0 (v := (f_active, f_epoch, a_nodeUp, a_journalUp, a_masterUp, a_touch, a_log, a_many, a_promise, a_base, a_stamp, a_units, a_unit, a_sort, a_placeOf, a_client, a_rowLength, a_row, a_closedWith, a_stampOf)) h hI hD hb h5 hin ⟨by decide, cd_if (qt_NmL (by omega) (by omega)) (fun y => ⟨hv, ?_⟩) (fun y => h0 (fun x => ?_))⟩)
    · have s137 : ¬ qt_lim T n J → wY_found_137 post (nI J) (nI b) (nI m) f_active f_epoch a_nodeUp a_journalUp a_masterUp a_touch a_log a_many a_promise a_base a_stamp a_units a_unit a_sort a_placeOf a_client a_rowLength a_row a_closedWith a_stampOf := by
        intro hlim
        refine ⟨by decide, ?_⟩
        rw [e8, er, show 16 * nI m + nI b = nI (16 * m + b) from mu_l m 16 b, show 8 * nI (16 * m + b) + nI (J % 8) = nI (8 * (16 * m + b) + J % 8) from mu_l _ 8 _]
        refine ⟨vp_in_nI (by omega) (by decide), ?_⟩
        rw [nI_clamp (by omega), hD.2.2.2]
        exact h1 ⟨z, hlim, by rw [hbb]; exact y⟩ m hlt hm
      have s110 : ¬ qt_lim T n J → wY_found_110 post (nI n) (nI J) (nI b) (nI m) f_active f_epoch a_nodeUp a_journalUp a_masterUp a_touch a_log a_many a_promise a_base a_stamp a_units a_unit a_sort a_placeOf a_client a_rowLength a_row a_closedWith a_stampOf := fun hlim => br_t rfl (s137 hlim)
      have e1 : nI (qt_rl T n) - 1 = nI (qt_rl T n - 1) := by
        obtain ⟨l, hl⟩ : ∃ l, qt_rl T n = l + 1 := ⟨qt_rl T n - 1, by omega⟩
        rw [hl, nI_pred]; rfl
      rw [e1]
      refine cd_if (nI_eq (b := 3) (by omega) (by decide)) (fun y => ⟨by decide, hv, cd_if (nI_eq hJ8 (by omega)) (fun w => ⟨hv, ?_⟩) (fun w => s110 (fun v => w v.2.2.1))⟩) (fun y => s110 (fun w => y w.1))
      have ew : a_closedWith n = nI (qt_cw T n) := qt_ag4 h n hn y
      rw [ew]
      refine cd_if (nI_eq (b := 0) (by omega) (by decide)) (fun x => s110 (fun w => w.2.1 x)) (fun x => br_f bo_1 ⟨by decide, hv, ?_⟩)
      rw [e8, er, hc, ew]
      exact cd_if (nI_ltI (by omega) (by omega)) (fun v => s137 (fun q => by have := q.2.2.2; omega)) (fun v => h0 (fun q => q.2.1 ⟨y, x, w, by omega⟩))
    · obtain ⟨x1, x2, x3⟩ := x
      rw [hbb] at x3
      exact y x3
  · have e : m = 5 := by have := hm.1; omega
    subst e
    rw [ls_vN]
    refine br_t (by decide) (h0 (fun x => ?_))
    obtain ⟨x1, x2, x3⟩ := x
    rw [hbb] at x3
    exact hlt (rd_fwX (un := un) (b := b) hm (by omega))
end
theorem i_vc_read {k : Nat} {u : SX} {v : SY} (I : i_Rel k u v) (hk : k + 4 ≤ 2048) (v1 : Int32) (v2 : Int32) : wpX_read (fun r => wpY_read (fun r' v' => r' = r ∧ i_Rel (k + 4) u v') v v1 v2) u v1 v2 := by
  have I' := i_up I
  obtain ⟨T, ⟨mu, ju, ac, ep, to, pr, ba, le, lg⟩, ⟨nu, st, un, ua⟩, h1, h2, h3, h4, h5, h6, h7, h8⟩ := I
  have hb := rl_bd h7 (by omega) h8
  have i5 := h7.2.2.2.2.1
  have R0 : ∀ v', sy_L (mu, ju, ac, ep, to, pr, ba, le, lg) v' → sy_D (nu, st, un, ua) v' → i_Rel (k + 4) u v' := fun v' g1 g2 => ⟨T, _, _, h1, h2, h3, g1, g2, h6, lj_ivK (by omega) h7, h8⟩
  obtain ⟨n, hn⟩ := ix_e v1 (N := 12) (by decide)
  have Y : ∀ r, (ac = 0 → (10000000000 : Int64) = r) → (0 < ac → ∀ v', sy_T T v' → sy_L (mu, ju, ac, ep, to, pr, ba, le, lg) v' → sy_D (nu, st, un, ua) v' → wpY_found (fun r' => r' = r ∧ i_Rel (k + 4) u v') v' v1 v2) → wpY_read (fun r' v' => r' = r ∧ i_Rel (k + 4) u v') v v1 v2 := by
    intro r a1 a2
    obtain ⟨f_active, f_epoch, a_nodeUp, a_journalUp, a_masterUp, a_touch, a_log, a_many, a_promise, a_base, a_stamp, a_units, a_unit, a_sort, a_placeOf, a_client, a_rowLength, a_row, a_closedWith, a_stampOf⟩ := v
    refine cd_if (ym_act h4.1 h7.2.1) (fun ha => ym_tell (v := (f_active, f_epoch, a_nodeUp, a_journalUp, a_masterUp, a_touch, a_log, a_many, a_promise, a_base, a_stamp, a_units, a_unit, a_sort, a_placeOf, a_client, a_rowLength, a_row, a_closedWith, a_stampOf)) h4 h5 (fun j hj => ⟨(i5 j hj).1, (i5 j hj).2.2.2⟩) ?_) (fun za => ⟨a1 (by omega), I'⟩)
    rintro ⟨f_active, f_epoch, a_nodeUp, a_journalUp, a_masterUp, a_touch, a_log, a_many, a_promise, a_base, a_stamp, a_units, a_unit, a_sort, a_placeOf, a_client, a_rowLength, a_row, a_closedWith, a_stampOf⟩ gT gL gD
    rw [← (h7.2.2.2.2.2 ha).2.2] at gT
    exact a2 ha _ gT gL gD
  generalize hpost : (fun r => wpY_read (fun r' v' => r' = r ∧ i_Rel (k + 4) u v') v v1 v2) = post
  have Y' : ∀ r, (ac = 0 → (10000000000 : Int64) = r) → (0 < ac → ∀ v', sy_T T v' → sy_L (mu, ju, ac, ep, to, pr, ba, le, lg) v' → sy_D (nu, st, un, ua) v' → wpY_found (fun r' => r' = r ∧ i_Rel (k + 4) u v') v' v1 v2) → post r := by
    intro r a b
    rw [← hpost]; exact Y r a b
  have YN : ∀ v', sy_T T v' → sy_L (mu, ju, ac, ep, to, pr, ba, le, lg) v' → sy_D (nu, st, un, ua) v' → (n < 12 → qt_so T n < 2) → wpY_found (fun r' => r' = 10000000000 ∧ i_Rel (k + 4) u v') v' v1 v2 := by
    rintro ⟨f_active, f_epoch, a_nodeUp, a_journalUp, a_masterUp, a_touch, a_log, a_many, a_promise, a_base, a_stamp, a_units, a_unit, a_sort, a_placeOf, a_client, a_rowLength, a_row, a_closedWith, a_stampOf⟩ gT gL gD hs
    unfold wpY_found
    exact ym_isFile (v := (f_active, f_epoch, a_nodeUp, a_journalUp, a_masterUp, a_touch, a_log, a_many, a_promise, a_base, a_stamp, a_units, a_unit, a_sort, a_placeOf, a_client, a_rowLength, a_row, a_closedWith, a_stampOf)) gT h6 hn (fun a b => absurd (hs a) (by omega)) (fun _ => br_t rfl ⟨rfl, R0 _ gL gD⟩)
  clear Y
  obtain ⟨f_active, f_epoch, a_dataNodeDown, a_journalDown, a_masterDown, a_inTouch, a_promise, a_base, a_logLength, a_logEpoch, a_logKind, a_logA, a_logB, a_logC, a_inodeState, a_inodePlace, a_inodeClient, a_closeUnits, a_rowLength, a_rowBlock, a_blockStamp, a_replicaHeld, a_replicaStamp, a_unitCount, a_unitValue⟩ := u
  refine cd_if (xm_act h2.1 h7.2.1) (fun za => Y' _ (fun _ => rfl) (fun z => by omega)) (fun za => ?_)
  have ha : 0 < ac := by omega
  refine xm_isFile (u := (f_active, f_epoch, a_dataNodeDown, a_journalDown, a_masterDown, a_inTouch, a_promise, a_base, a_logLength, a_logEpoch, a_logKind, a_logA, a_logB, a_logC, a_inodeState, a_inodePlace, a_inodeClient, a_closeUnits, a_rowLength, a_rowBlock, a_blockStamp, a_replicaHeld, a_replicaStamp, a_unitCount, a_unitValue)) h1 h6 hn (fun hlt hs => br_f bo_1 ?_) (fun hs => br_t rfl (Y' _ (fun z => by omega) (fun _ v' g1 g2 g3 => YN v' g1 g2 g3 hs)))
  have e := ix_i hn hlt
  subst e
  by_cases hneg : v2 < 0
  · refine (show wpX_findUnit _ (f_active, f_epoch, a_dataNodeDown, a_journalDown, a_masterDown, a_inTouch, a_promise, a_base, a_logLength, a_logEpoch, a_logKind, a_logA, a_logB, a_logC, a_inodeState, a_inodePlace, a_inodeClient, a_closeUnits, a_rowLength, a_rowBlock, a_blockStamp, a_replicaHeld, a_replicaStamp, a_unitCount, a_unitValue) (nI n) v2 from br_t hneg (Y' _ (fun z => by omega) (fun _ v' g1 g2 g3 => ?_)))
    obtain ⟨f_active, f_epoch, a_nodeUp, a_journalUp, a_masterUp, a_touch, a_log, a_many, a_promise, a_base, a_stamp, a_units, a_unit, a_sort, a_placeOf, a_client, a_rowLength, a_row, a_closedWith, a_stampOf⟩ := v'
    unfold wpY_found
    exact ym_isFile (v := (f_active, f_epoch, a_nodeUp, a_journalUp, a_masterUp, a_touch, a_log, a_many, a_promise, a_base, a_stamp, a_units, a_unit, a_sort, a_placeOf, a_client, a_rowLength, a_row, a_closedWith, a_stampOf)) g1 h6 hn (fun _ _ => br_f bo_1 (br_t hneg ⟨rfl, R0 _ g2 g3⟩)) (fun z => br_t rfl ⟨rfl, R0 _ g2 g3⟩)
  · obtain ⟨J, hJ, rfl⟩ := nI_of hneg
    refine xm_findUnit (u := (f_active, f_epoch, a_dataNodeDown, a_journalDown, a_masterDown, a_inTouch, a_promise, a_base, a_logLength, a_logEpoch, a_logKind, a_logA, a_logB, a_logC, a_inodeState, a_inodePlace, a_inodeClient, a_closeUnits, a_rowLength, a_rowBlock, a_blockStamp, a_replicaHeld, a_replicaStamp, a_unitCount, a_unitValue)) h1 h6 h3 hb hlt hJ (fun z => Y' _ (fun z => by omega) (fun _ v' g1 g2 g3 => ym_found g1 h6 g3 hb hlt hs hJ (fun _ => ⟨rfl, R0 _ g2 g3⟩) (fun y => absurd y z))) (fun z m hm1 hm => Y' _ (fun z => by omega) (fun _ v' g1 g2 g3 => ym_found g1 h6 g3 hb hlt hs hJ (fun y => absurd z y) (fun _ m' hm1' hm' => ⟨?_, R0 _ g2 g3⟩)))
    have e : m' = m := by
      by_cases l1 : m' < m
      · exact absurd (hm'.2.2 hm1') (hm.2.1 m' l1)
      · by_cases l2 : m < m'
        · exact absurd (hm.2.2 hm1) (hm'.2.1 m l2)
        · omega
    rw [e]
end
section
/-! node, block -/
def rl_nv (T : qt_T) (ml mn n w : Nat) : Int32 :=
  if n < 12 ∧ w < 13 then (if w = 0 then nI (qt_so T n) else if qt_so T n = 0 then -1 else if w = 1 then qt_m (qt_pl T n) else if w = 2 then (if qt_so T n = 2 then qt_m (qt_cl T n) else -1)
    else if w = 3 then (if qt_so T n = 1 then nI (rd_cn (qt_ef T n) 12) else nI (qt_rl T n)) else if w = 4 then (if qt_so T n = 1 then 0 else nI ml) else if qt_so T n = 1 then ls_v 12 mn else -1) else -1
theorem rd_fd24 {T : qt_T} {nu : Nat → Bool} {st un : Nat → Nat} {n J : Nat} (hI : qt_iv T) (hn : n < 12) (hJ : 24 ≤ J) : ¬ rd_fd T nu st un n J := by
  intro z
  have := z.1
  have := qt_iv4 hI n hn
  omega
section
variable {T : qt_T} {mu ju : Nat → Bool} {ac ep : Nat} {to : Nat → Bool} {pr ba le : Nat → Nat} {lg : Nat → Nat → qt_R} {nu : Nat → Bool} {st un : Nat → Nat} {ua : Nat → Int32}
theorem xm_countReadableUnits {u : SX} (h : sx_T T u) (hI : qt_iv T) (hD : sx_D (nu, st, un, ua) u) (hb : rd_bd (nu, st, un, ua)) {post : Int32 → Prop} {n m : Nat} (hn : n < 12) (hm : ls_f (fun J => ¬ rd_fd T nu st un n J) 24 m) (hp : post (nI m)) : wpX_countReadableUnits post u (nI n) := by
  obtain ⟨f_active, f_epoch, a_dataNodeDown, a_journalDown, a_masterDown, a_inTouch, a_promise, a_base, a_logLength, a_logEpoch, a_logKind, a_logA, a_logB, a_logC, a_inodeState, a_inodePlace, a_inodeClient, a_closeUnits, a_rowLength, a_rowBlock, a_blockStamp, a_replicaHeld, a_replicaStamp, a_unitCount, a_unitValue⟩ := u
  refine ⟨25, lq_s (fun n' d => wX_countReadableUnits_5 post (nI n) 24 f_active f_epoch a_dataNodeDown a_journalDown a_masterDown a_inTouch a_promise a_base a_logLength a_logEpoch a_logKind a_logA a_logB a_logC a_inodeState a_inodePlace a_inodeClient a_closeUnits a_rowLength a_rowBlock a_blockStamp a_replicaHeld a_replicaStamp a_unitCount a_unitValue n' (nI d)) 24 m hm.1 (fun n' e => ?_) (fun n' hlt => ?_) (fun n' d hd H => ?_) 25 0 (by omega) (by omega)⟩
  · subst e
    exact br_t lb_t hp
  · have z := hm.2.2 hlt
    exact br_f (lb_f hlt) (xm_findUnit (u := (f_active, f_epoch, a_dataNodeDown, a_journalDown, a_masterDown, a_inTouch, a_promise, a_base, a_logLength, a_logEpoch, a_logKind, a_logA, a_logB, a_logC, a_inodeState, a_inodePlace, a_inodeClient, a_closeUnits, a_rowLength, a_rowBlock, a_blockStamp, a_replicaHeld, a_replicaStamp, a_unitCount, a_unitValue)) h hI hD hb hn (by omega) (fun _ => br_t rfl hp) (fun y => absurd y z))
  · have hlt : d < 24 := by have := hm.1; omega
    have z := hm.2.1 d hd
    exact br_f (lb_f hlt) (xm_findUnit (u := (f_active, f_epoch, a_dataNodeDown, a_journalDown, a_masterDown, a_inTouch, a_promise, a_base, a_logLength, a_logEpoch, a_logKind, a_logA, a_logB, a_logC, a_inodeState, a_inodePlace, a_inodeClient, a_closeUnits, a_rowLength, a_rowBlock, a_blockStamp, a_replicaHeld, a_replicaStamp, a_unitCount, a_unitValue)) h hI hD hb hn (by omega) (fun y => absurd y z) (fun _ _ _ _ => br_f (nu_ne _) (nm_r (nI_1 d) H)))
theorem ym_length {v : SY} (h : sy_T T v) (hI : qt_iv T) (hD : sy_D (nu, st, un, ua) v) (hb : rd_bd (nu, st, un, ua)) {post : Int32 → Prop} {n m : Nat} (hn : n < 12) (hs : 2 ≤ qt_so T n) (hm : ls_f (fun J => ¬ rd_fd T nu st un n J) 24 m) (hp : post (nI m)) : wpY_length post v (nI n) := by
  obtain ⟨f_active, f_epoch, a_nodeUp, a_journalUp, a_masterUp, a_touch, a_log, a_many, a_promise, a_base, a_stamp, a_units, a_unit, a_sort, a_placeOf, a_client, a_rowLength, a_row, a_closedWith, a_stampOf⟩ := v
  have hm1 := hm.1
  have z : ¬ rd_fd T nu st un n m := by
    by_cases hlt : m < 24
    · exact hm.2.2 hlt
    · exact rd_fd24 hI hn (by omega)
  refine ⟨26, lq_s (fun n' d => wY_length_2 post (nI n) f_active f_epoch a_nodeUp a_journalUp a_masterUp a_touch a_log a_many a_promise a_base a_stamp a_units a_unit a_sort a_placeOf a_client a_rowLength a_row a_closedWith a_stampOf n' (nI d)) 25 m (by omega) (fun n' e => by omega) (fun n' hlt => ?_) (fun n' d hd H => ?_) 26 0 (by omega) (by omega)⟩
  · exact ym_found (v := (f_active, f_epoch, a_nodeUp, a_journalUp, a_masterUp, a_touch, a_log, a_many, a_promise, a_base, a_stamp, a_units, a_unit, a_sort, a_placeOf, a_client, a_rowLength, a_row, a_closedWith, a_stampOf)) (post := fun r_1 => (((r_1 = 10000000000 → (post (nI m))) ∧ (¬ r_1 = 10000000000 → (∀ x, x = nI m + 1 → (wY_length_2 post (nI n) f_active f_epoch a_nodeUp a_journalUp a_masterUp a_touch a_log a_many a_promise a_base a_stamp a_units a_unit a_sort a_placeOf a_client a_rowLength a_row a_closedWith a_stampOf n' x)))))) h hI hD hb hn hs (by omega) (fun _ => br_t rfl hp) (fun y => absurd y z)
  · have z := hm.2.1 d hd
    exact ym_found (v := (f_active, f_epoch, a_nodeUp, a_journalUp, a_masterUp, a_touch, a_log, a_many, a_promise, a_base, a_stamp, a_units, a_unit, a_sort, a_placeOf, a_client, a_rowLength, a_row, a_closedWith, a_stampOf)) (post := fun r_1 => (((r_1 = 10000000000 → (post (nI d))) ∧ (¬ r_1 = 10000000000 → (∀ x, x = nI d + 1 → (wY_length_2 post (nI n) f_active f_epoch a_nodeUp a_journalUp a_masterUp a_touch a_log a_many a_promise a_base a_stamp a_units a_unit a_sort a_placeOf a_client a_rowLength a_row a_closedWith a_stampOf n' x)))))) h hI hD hb hn hs (by omega) (fun y => absurd y z) (fun _ _ _ _ => br_f (nu_ne _) (nm_r (nI_1 d) H))
theorem xm_node {u : SX} (h : sx_T T u) (hI : qt_iv T) (hL : sx_L (mu, ju, ac, ep, to, pr, ba, le, lg) u) (hD : sx_D (nu, st, un, ua) u) (hb : rd_bd (nu, st, un, ua)) (hac2 : ac ≤ 2) {post : Int32 → Prop} {p q : Int32} {n w ml mn : Nat} (hn : ix_c p 12 n) (hw : ix_c q 13 w) (hml : ls_f (fun J => ¬ rd_fd T nu st un n J) 24 ml) (hmn : ls_f (fun i => 1 ≤ i ∧ qt_so T i ≠ 0 ∧ qt_pl T i = 8 * n + (w - 5) + 1) 12 mn)
    (h0 : ac = 0 → post (-1)) (h1 : 0 < ac → post (rl_nv T ml mn n w)) : wpX_node post u p q := by
  obtain ⟨f_active, f_epoch, a_dataNodeDown, a_journalDown, a_masterDown, a_inTouch, a_promise, a_base, a_logLength, a_logEpoch, a_logKind, a_logA, a_logB, a_logC, a_inodeState, a_inodePlace, a_inodeClient, a_closeUnits, a_rowLength, a_rowBlock, a_blockStamp, a_replicaHeld, a_replicaStamp, a_unitCount, a_unitValue⟩ := u
  refine cd_if (xm_act hL.1 hac2) h0 (fun za => ?_)
  have hp := h1 (by omega)
  clear h0 h1
  unfold rl_nv at hp
  refine ix_t2 hn rfl (by decide) (fun hlt e => ?_) (fun e => ?_)
  · subst e
    have hv := vp_in_nI hlt (by decide : 12 < 2 ^ 31)
    have hc : (nI n).toNatClampNeg = n := nI_clamp (by omega)
    have hs3 := qt_iv3 hI n hlt
    have es : a_inodeState n = nI (qt_so T n) := qt_ag1 h n hlt
    rw [hc, es]
    by_cases w0 : w = 0
    · subst w0
      have e := ix_i hw (by decide)
      subst e
      rw [if_pos ⟨hlt, by decide⟩, if_pos rfl] at hp
      exact br_t rfl ⟨hv, hp⟩
    have hq0 : ¬ q = 0 := by
      intro z
      rcases hw with ⟨w1, w2⟩ | ⟨w1, w2 | ⟨w2, w3⟩⟩
      · rw [z] at w2
        have := (nI_eq (a := 0) (by decide) (by omega)).mp w2
        omega
      · rw [z] at w2; exact absurd w2 (by decide)
      · rw [z] at w2; exact absurd w2 (by decide)
    refine br_f hq0 ⟨hv, cd_if (nI_eq (b := 0) (by omega) (by decide)) (fun z => ?_) (fun z => ⟨hv, ?_⟩)⟩
    · by_cases w13 : w < 13
      · rw [if_pos ⟨hlt, w13⟩, if_neg w0, if_pos z] at hp; exact hp
      · rw [if_neg (fun y => w13 y.2)] at hp; exact hp
    · have s57 : ∀ f : Int32, (f = 0 ↔ ¬ qt_so T n = 1) → wX_node_57 post (nI n) q f f_active f_epoch a_dataNodeDown a_journalDown a_masterDown a_inTouch a_promise a_base a_logLength a_logEpoch a_logKind a_logA a_logB a_logC a_inodeState a_inodePlace a_inodeClient a_closeUnits a_rowLength a_rowBlock a_blockStamp a_replicaHeld a_replicaStamp a_unitCount a_unitValue := by
        intro f hf
        have fd : ¬ f = 0 ↔ qt_so T n = 1 := by rw [hf]; exact Classical.not_not
        rcases hw with ⟨w1, w2⟩ | ⟨w1, w2 | ⟨w2, w3⟩⟩
        · subst w2
          rw [if_pos ⟨hlt, w1⟩, if_neg w0, if_neg z] at hp
          by_cases w5 : 5 ≤ w
          · rw [if_neg (by omega), if_neg (by omega), if_neg (by omega), if_neg (by omega)] at hp
            refine br_f (fun y => by have := (nI_ltI (b := 1) (by omega) (by decide)).mp y; omega) (br_t ((nI_ltI (a := 4) (by decide) (by omega)).mpr (by omega)) (cd_if hf (fun y => ?_) (fun y => ?_)))
            · rw [if_neg y] at hp; exact hp
            · have y' : qt_so T n = 1 := Classical.not_not.mp y
              rw [if_pos y'] at hp
              refine br_f (fun y => by have := (nI_ltI (b := 5) (by omega) (by decide)).mp y; omega) (br_f (lb_f w1) ?_)
              rw [show nI w - 5 = nI (w - 5) from pk_sub (b := 5) w5]
              exact xm_inodeAt (u := (f_active, f_epoch, a_dataNodeDown, a_journalDown, a_masterDown, a_inTouch, a_promise, a_base, a_logLength, a_logEpoch, a_logKind, a_logA, a_logB, a_logC, a_inodeState, a_inodePlace, a_inodeClient, a_closeUnits, a_rowLength, a_rowBlock, a_blockStamp, a_replicaHeld, a_replicaStamp, a_unitCount, a_unitValue)) h hI hlt (by omega) hmn hp
          · have hw4 : w = 1 ∨ w = 2 ∨ w = 3 ∨ w = 4 := by omega
            rcases hw4 with rfl | rfl | rfl | rfl
            · rw [if_pos rfl] at hp
              refine br_f (by decide) (br_f (by decide) (br_t rfl ⟨hv, ?_⟩))
              rw [hc, qt_ag2 h n hlt]; exact hp
            · rw [if_neg (by decide), if_pos rfl] at hp
              refine br_f (by decide) (br_f (by decide) (br_f (by decide) (br_t rfl ⟨hv, ?_⟩)))
              rw [hc, es]
              refine cd_if (nI_eq (b := 2) (by omega) (by decide)) (fun y => ⟨hv, ?_⟩) (fun y => ?_)
              · rw [if_pos y] at hp; rw [qt_ag3 h n hlt y]; exact hp
              · rw [if_neg y] at hp; exact hp
            · rw [if_neg (by decide), if_neg (by decide), if_pos rfl] at hp
              refine br_f (by decide) (br_f (by decide) (br_f (by decide) (br_f (by decide) (br_t rfl (cd_if hf (fun y => ⟨hv, ?_⟩) (fun y => ?_))))))
              · rw [if_neg y] at hp; rw [hc, qt_ag5 h n hlt]; exact hp
              · rw [if_pos (Classical.not_not.mp y)] at hp
                exact xm_countEntries (u := (f_active, f_epoch, a_dataNodeDown, a_journalDown, a_masterDown, a_inTouch, a_promise, a_base, a_logLength, a_logEpoch, a_logKind, a_logA, a_logB, a_logC, a_inodeState, a_inodePlace, a_inodeClient, a_closeUnits, a_rowLength, a_rowBlock, a_blockStamp, a_replicaHeld, a_replicaStamp, a_unitCount, a_unitValue)) h hI hlt hp
            · rw [if_neg (by decide), if_neg (by decide), if_neg (by decide), if_pos rfl] at hp
              refine br_f (by decide) (br_f (by decide) (br_f (by decide) (br_f (by decide) (br_f (by decide) (br_t rfl (cd_if hf (fun y => ?_) (fun y => ?_)))))))
              · rw [if_neg y] at hp
                exact xm_countReadableUnits (u := (f_active, f_epoch, a_dataNodeDown, a_journalDown, a_masterDown, a_inTouch, a_promise, a_base, a_logLength, a_logEpoch, a_logKind, a_logA, a_logB, a_logC, a_inodeState, a_inodePlace, a_inodeClient, a_closeUnits, a_rowLength, a_rowBlock, a_blockStamp, a_replicaHeld, a_replicaStamp, a_unitCount, a_unitValue)) h hI hD hb hlt hml hp
              · rw [if_pos (Classical.not_not.mp y)] at hp; exact hp
        · rw [if_neg (by omega)] at hp
          have q1 : q < 1 := Int32.lt_trans w2 (by decide)
          have q5 : q < 5 := Int32.lt_trans w2 (by decide)
          exact br_t q1 (cd_if hf (fun _ => hp) (fun _ => br_t q5 hp))
        · rw [if_neg (by omega)] at hp
          obtain ⟨j, hj, rfl⟩ := nI_of w3
          have hj13 : 13 ≤ j := (nI_leI (a := 13) (by decide) hj).mp w2
          exact br_f (fun y => by have := (nI_ltI (b := 1) hj (by decide)).mp y; omega) (br_t ((nI_ltI (a := 4) (by decide) hj).mpr (by omega)) (cd_if hf (fun _ => hp) (fun _ => br_f (fun y => by have := (nI_ltI (b := 5) hj (by decide)).mp y; omega) (br_t w2 hp))))
      exact cd_if (nI_eq (b := 1) (by omega) (by decide)) (fun y => s57 1 ⟨fun x => absurd x bo_1, fun x => absurd y x⟩) (fun y => s57 0 ⟨fun _ => y, fun _ => rfl⟩)
  · rw [if_neg (by omega)] at hp; exact hp
theorem ym_node {v : SY} (hI : qt_iv T) (hL : sy_L (mu, ju, ac, ep, to, pr, ba, le, lg) v) (hD : sy_D (nu, st, un, ua) v) (hb : rd_bd (nu, st, un, ua)) (hac2 : ac ≤ 2) (hwf : ∀ j, j < 3 → qt_wf (lg j) (le j) ∧ le j ≤ 1000) (hT : 0 < ac → T = qt_ab (lg (lj_src to)) (le (lj_src to))) {post : Int32 → SY → Prop} {p q : Int32} {n w ml mn : Nat} (hn : ix_c p 12 n) (hw : ix_c q 13 w) (hml : ls_f (fun J => ¬ rd_fd T nu st un n J) 24 ml) (hmn : ls_f (fun i => 1 ≤ i ∧ qt_so T i ≠ 0 ∧ qt_pl T i = 8 * n + (w - 5) + 1) 12 mn)
    (h0 : ac = 0 → post (-1) v) (h1 : 0 < ac → ∀ v', sy_L (mu, ju, ac, ep, to, pr, ba, le, lg) v' → sy_D (nu, st, un, ua) v' → post (rl_nv T ml mn n w) v') : wpY_node post v p q := by
  obtain ⟨f_active, f_epoch, a_nodeUp, a_journalUp, a_masterUp, a_touch, a_log, a_many, a_promise, a_base, a_stamp, a_units, a_unit, a_sort, a_placeOf, a_client, a_rowLength, a_row, a_closedWith, a_stampOf⟩ := v
  refine cd_if (show f_active < 0 ↔ ac = 0 by rw [show f_active = qt_m ac from hL.1, qt_mZ (by omega)]) h0 (fun za => ?_)
  have ha : 0 < ac := by omega
  have out : ¬ (n < 12 ∧ w < 13) → post (-1) (f_active, f_epoch, a_nodeUp, a_journalUp, a_masterUp, a_touch, a_log, a_many, a_promise, a_base, a_stamp, a_units, a_unit, a_sort, a_placeOf, a_client, a_rowLength, a_row, a_closedWith, a_stampOf) := by
    intro z
    have := h1 ha _ hL hD
    unfold rl_nv at this
    rw [if_neg z] at this
    exact this
  refine ym_in hn (by decide) rfl (fun hlt => br_f bo_1 (ym_in hw (by decide) rfl (fun w13 => br_f bo_1 ?_) (fun e => br_t rfl (out (fun z => by omega))))) (fun e => br_t rfl (out (fun z => by omega)))
  refine ym_tell (v := (f_active, f_epoch, a_nodeUp, a_journalUp, a_masterUp, a_touch, a_log, a_many, a_promise, a_base, a_stamp, a_units, a_unit, a_sort, a_placeOf, a_client, a_rowLength, a_row, a_closedWith, a_stampOf)) hL hD hwf ?_
  clear out
  rintro ⟨f_active, f_epoch, a_nodeUp, a_journalUp, a_masterUp, a_touch, a_log, a_many, a_promise, a_base, a_stamp, a_units, a_unit, a_sort, a_placeOf, a_client, a_rowLength, a_row, a_closedWith, a_stampOf⟩ gT gL gD
  rw [← hT ha] at gT
  have hp := h1 ha _ gL gD
  clear h0 h1
  unfold rl_nv at hp
  rw [if_pos ⟨hlt, w13⟩] at hp
  have e := ix_i hn hlt
  have e' := ix_i hw w13
  subst e e'
  have hv := vp_in_nI hlt (by decide : 12 < 2 ^ 31)
  have hc : (nI n).toNatClampNeg = n := nI_clamp (by omega)
  have hs3 := qt_iv3 hI n hlt
  have es : a_sort n = nI (qt_so T n) := qt_ag1 gT n hlt
  dsimp only
  rw [hc, es]
  refine cd_if (nI_eq (b := 0) (by omega) (by decide)) (fun z0 => ⟨hv, ?_⟩) (fun z0 => ⟨hv, cd_if (nI_eq (b := 0) (by omega) (by decide)) (fun z => ?_) (fun z => cd_if (nI_eq (b := 1) (by omega) (by decide)) (fun z1 => ⟨hv, ?_⟩) (fun z1 => cd_if (nI_eq (b := 2) (by omega) (by decide)) (fun z2 => ⟨hv, ?_⟩) (fun z2 => ⟨hv, ?_⟩)))⟩)
  · rw [if_pos z0] at hp; exact hp
  · rw [if_neg z0, if_pos z] at hp; exact hp
  · rw [if_neg z0, if_neg z, if_pos z1] at hp
    rw [qt_ag2 gT n hlt]; exact hp
  · rw [if_neg z0, if_neg z, if_neg z1, if_pos z2] at hp
    refine cd_if (nI_eq (b := 2) (by omega) (by decide)) (fun y => ⟨hv, ?_⟩) (fun y => ?_)
    · rw [if_pos y] at hp; rw [qt_ag3 gT n hlt y]; exact hp
    · rw [if_neg y] at hp; exact hp
  · rw [if_neg z0, if_neg z, if_neg z1, if_neg z2] at hp
    have s106 : ∀ f : Int32, (f = 0 ↔ ¬ qt_so T n = 1) → wY_node_106 post (nI n) (nI w) f f_active f_epoch a_nodeUp a_journalUp a_masterUp a_touch a_log a_many a_promise a_base a_stamp a_units a_unit a_sort a_placeOf a_client a_rowLength a_row a_closedWith a_stampOf := by
      intro f hf
      refine cd_if (nI_eq (b := 3) (by omega) (by decide)) (fun z3 => cd_if hf (fun y => ⟨hv, ?_⟩) (fun y => ?_)) (fun z3 => cd_if (nI_eq (b := 4) (by omega) (by decide)) (fun z4 => cd_if hf (fun y => ?_) (fun y => ?_)) (fun z4 => cd_if hf (fun y => ?_) (fun y => ?_)))
      · rw [if_pos z3, if_neg y] at hp; rw [hc, qt_ag5 gT n hlt]; exact hp
      · rw [if_pos z3, if_pos (Classical.not_not.mp y)] at hp
        exact ym_inside (v := (f_active, f_epoch, a_nodeUp, a_journalUp, a_masterUp, a_touch, a_log, a_many, a_promise, a_base, a_stamp, a_units, a_unit, a_sort, a_placeOf, a_client, a_rowLength, a_row, a_closedWith, a_stampOf)) gT hI hlt hp
      · rw [if_neg z3, if_pos z4, if_neg y] at hp
        exact ym_length (v := (f_active, f_epoch, a_nodeUp, a_journalUp, a_masterUp, a_touch, a_log, a_many, a_promise, a_base, a_stamp, a_units, a_unit, a_sort, a_placeOf, a_client, a_rowLength, a_row, a_closedWith, a_stampOf)) gT hI gD hb hlt (by omega) hml hp
      · rw [if_neg z3, if_pos z4, if_pos (Classical.not_not.mp y)] at hp; exact hp
      · rw [if_neg z3, if_neg z4, if_neg y] at hp; exact hp
      · rw [if_neg z3, if_neg z4, if_pos (Classical.not_not.mp y)] at hp
        have w5 : 5 ≤ w := by omega
        rw [show nI w - 5 = nI (w - 5) from pk_sub (b := 5) w5]
        exact ym_named (v := (f_active, f_epoch, a_nodeUp, a_journalUp, a_masterUp, a_touch, a_log, a_many, a_promise, a_base, a_stamp, a_units, a_unit, a_sort, a_placeOf, a_client, a_rowLength, a_row, a_closedWith, a_stampOf)) gT hI hlt (by omega) hmn hp
    exact cd_if (nI_eq (b := 1) (by omega) (by decide)) (fun y => s106 1 ⟨fun x => absurd x bo_1, fun x => absurd y x⟩) (fun y => s106 0 ⟨fun _ => y, fun _ => rfl⟩)
end
theorem i_vc_node {k : Nat} {u : SX} {v : SY} (I : i_Rel k u v) (hk : k + 4 ≤ 2048) (v1 : Int32) (v2 : Int32) : wpX_node (fun r => wpY_node (fun r' v' => r' = r ∧ i_Rel (k + 4) u v') v v1 v2) u v1 v2 := by
  have I' := i_up I
  obtain ⟨T, ⟨mu, ju, ac, ep, to, pr, ba, le, lg⟩, ⟨nu, st, un, ua⟩, h1, h2, h3, h4, h5, h6, h7, h8⟩ := I
  have hb := rl_bd h7 (by omega) h8
  have i5 := h7.2.2.2.2.1
  have R0 : ∀ v', sy_L (mu, ju, ac, ep, to, pr, ba, le, lg) v' → sy_D (nu, st, un, ua) v' → i_Rel (k + 4) u v' := fun v' g1 g2 => ⟨T, _, _, h1, h2, h3, g1, g2, h6, lj_ivK (by omega) h7, h8⟩
  obtain ⟨n, hn⟩ := ix_e v1 (N := 12) (by decide)
  obtain ⟨w, hw⟩ := ix_e v2 (N := 13) (by decide)
  obtain ⟨ml, hml⟩ := ls_ex (fun J => ¬ rd_fd T nu st un n J) 24
  obtain ⟨mn, hmn⟩ := ls_ex (fun i => 1 ≤ i ∧ qt_so T i ≠ 0 ∧ qt_pl T i = 8 * n + (w - 5) + 1) 12
  have Y := fun (r : Int32) (a : ac = 0 → -1 = r) (b : 0 < ac → rl_nv T ml mn n w = r) => ym_node (post := fun r' v' => r' = r ∧ i_Rel (k + 4) u v') h6 h4 h5 hb h7.2.1 (fun j hj => ⟨(i5 j hj).1, (i5 j hj).2.2.2⟩) (fun z => (h7.2.2.2.2.2 z).2.2) hn hw hml hmn (fun z => ⟨a z, I'⟩) (fun z v' g1 g2 => ⟨b z, R0 v' g1 g2⟩)
  exact xm_node h1 h6 h2 h3 hb h7.2.1 hn hw hml hmn (fun z => Y _ (fun _ => rfl) (fun y => by omega)) (fun z => Y _ (fun y => by omega) (fun _ => rfl))
end
section
/-! block -/
def rl_bv (T : qt_T) (nu : Nat → Bool) (st un : Nat → Nat) (hb : Bool) (n K : Nat) (w : Int32) : Int32 :=
  if n < 12 ∧ 2 ≤ qt_so T n ∧ K < qt_rl T n then (if w = 0 then nI (qt_ro T (3 * n + K)) else if w = 1 then nI (qt_sp T (qt_ro T (3 * n + K))) else if w = 2 then nI (rd_mk (rd_g nu st (qt_ro T (3 * n + K)) (qt_sp T (qt_ro T (3 * n + K)))) 5)
    else if w = 3 then qt_m (rd_fw (rd_g nu st (qt_ro T (3 * n + K)) (qt_sp T (qt_ro T (3 * n + K)))) un (qt_ro T (3 * n + K)) 5) else if w = 4 then bo_p hb else -1) else -1
section
variable {T : qt_T} {mu ju : Nat → Bool} {ac ep : Nat} {to : Nat → Bool} {pr ba le : Nat → Nat} {lg : Nat → Nat → qt_R} {nu : Nat → Bool} {st un : Nat → Nat} {ua : Nat → Int32}
theorem xm_block {u : SX} (h : sx_T T u) (hI : qt_iv T) (hL : sx_L (mu, ju, ac, ep, to, pr, ba, le, lg) u) (hD : sx_D (nu, st, un, ua) u) (hb : rd_bd (nu, st, un, ua)) (hac2 : ac ≤ 2) {post : Int32 → Prop} {p q w : Int32} {n K : Nat} {hh : Bool} (hn : ix_c p 12 n) (hK : ix_c q 3 K) (hhh : hh = true ↔ rd_hg nu st (qt_ro T (3 * n + K)) (qt_sp T (qt_ro T (3 * n + K))))
    (h0 : ac = 0 → post (-1)) (h1 : 0 < ac → post (rl_bv T nu st un hh n K w)) : wpX_block post u p q w := by
  obtain ⟨f_active, f_epoch, a_dataNodeDown, a_journalDown, a_masterDown, a_inTouch, a_promise, a_base, a_logLength, a_logEpoch, a_logKind, a_logA, a_logB, a_logC, a_inodeState, a_inodePlace, a_inodeClient, a_closeUnits, a_rowLength, a_rowBlock, a_blockStamp, a_replicaHeld, a_replicaStamp, a_unitCount, a_unitValue⟩ := u
  refine cd_if (xm_act hL.1 hac2) h0 (fun za => ?_)
  have hp := h1 (by omega)
  clear h0 h1
  unfold rl_bv at hp
  refine xm_isFile (u := (f_active, f_epoch, a_dataNodeDown, a_journalDown, a_masterDown, a_inTouch, a_promise, a_base, a_logLength, a_logEpoch, a_logKind, a_logA, a_logB, a_logC, a_inodeState, a_inodePlace, a_inodeClient, a_closeUnits, a_rowLength, a_rowBlock, a_blockStamp, a_replicaHeld, a_replicaStamp, a_unitCount, a_unitValue)) h hI hn (fun hlt hs => br_f bo_1 ?_) (fun hs => br_t rfl ?_)
  · have e := ix_i hn hlt
    subst e
    have hv := vp_in_nI hlt (by decide : 12 < 2 ^ 31)
    have hc : (nI n).toNatClampNeg = n := nI_clamp (by omega)
    have hr := qt_iv4 hI n hlt
    rcases hK with ⟨k1, rfl⟩ | ⟨k1, k2 | ⟨k2, k3⟩⟩
    · refine br_f (nI_pos (by omega)) ⟨hv, ?_⟩
      rw [hc, qt_ag5 h n hlt]
      refine cd_if (nI_ltI (by omega) (by omega)) (fun z => ?_) (fun z => ?_)
      · rw [if_pos ⟨hlt, hs, z⟩] at hp
        have h5 := qt_iv5 hI n K hlt z
        have hsp := qt_iv8 hI _ h5
        rw [show nI n * 3 + nI K = nI (3 * n + K) from mu_r n 3 K]
        refine ⟨vp_in_nI (by omega) (by decide), nm_r (e' := nI (qt_ro T (3 * n + K))) (by rw [nI_clamp (by omega)]; exact qt_ag6 h n K hlt z) ?_⟩
        generalize qt_ro T (3 * n + K) = b at hp h5 hsp hhh
        rcases ix_s (N := 4) (by decide) w with y | ⟨y, y2⟩ | ⟨w, hw, rfl⟩
        · rw [if_neg (show ¬ w = 0 from sw_n (c := 0) y (by decide)), if_neg (show ¬ w = 1 from sw_n (c := 1) y (by decide)), if_neg (show ¬ w = 2 from sw_n (c := 2) y (by decide)), if_neg (show ¬ w = 3 from sw_n (c := 3) y (by decide)), if_neg (show ¬ w = 4 from sw_n (c := 4) y (by decide))] at hp
          exact br_t y hp
        · rw [if_neg (show ¬ w = 0 from sw_g (c := 0) y2 (by decide) (by decide)), if_neg (show ¬ w = 1 from sw_g (c := 1) y2 (by decide) (by decide)), if_neg (show ¬ w = 2 from sw_g (c := 2) y2 (by decide) (by decide)), if_neg (show ¬ w = 3 from sw_g (c := 3) y2 (by decide) (by decide)), if_neg (show ¬ w = 4 from sw_g (c := 4) y2 (by decide) (by decide))] at hp
          exact br_f y (br_t y2 hp)
        · match w, hw with
          | 0, _ =>
            rw [if_pos (by decide)] at hp
            exact br_f (by decide) (br_f (by decide) (br_t rfl hp))
          | 1, _ =>
            rw [if_neg (by decide), if_pos (by decide)] at hp
            refine br_f (by decide) (br_f (by decide) (br_f (by decide) (br_t rfl ⟨vp_in_nI h5 (by decide), ?_⟩)))
            rw [nI_clamp (by omega), qt_ag7 h b h5 (Or.inl trivial)]; exact hp
          | 2, _ =>
            rw [if_neg (by decide), if_neg (by decide), if_pos (by decide)] at hp
            exact br_f (by decide) (br_f (by decide) (br_f (by decide) (br_f (by decide) (br_t rfl (xm_goodNodes (u := (f_active, f_epoch, a_dataNodeDown, a_journalDown, a_masterDown, a_inTouch, a_promise, a_base, a_logLength, a_logEpoch, a_logKind, a_logA, a_logB, a_logC, a_inodeState, a_inodePlace, a_inodeClient, a_closeUnits, a_rowLength, a_rowBlock, a_blockStamp, a_replicaHeld, a_replicaStamp, a_unitCount, a_unitValue)) h hI hD hb h5 hp)))))
          | 3, _ =>
            rw [if_neg (by decide), if_neg (by decide), if_neg (by decide), if_pos (by decide)] at hp
            exact br_f (by decide) (br_f (by decide) (br_f (by decide) (br_f (by decide) (br_f (by decide) (br_t rfl (xm_fewestUnits (u := (f_active, f_epoch, a_dataNodeDown, a_journalDown, a_masterDown, a_inTouch, a_promise, a_base, a_logLength, a_logEpoch, a_logKind, a_logA, a_logB, a_logC, a_inodeState, a_inodePlace, a_inodeClient, a_closeUnits, a_rowLength, a_rowBlock, a_blockStamp, a_replicaHeld, a_replicaStamp, a_unitCount, a_unitValue)) h hI hD hb h5 hp))))))
          | 4, _ =>
            rw [if_neg (by decide), if_neg (by decide), if_neg (by decide), if_neg (by decide), if_pos (by decide)] at hp
            refine br_f (by decide) (br_f (by decide) (br_f (by decide) (br_f (by decide) (br_f (by decide) (br_f (by decide) (br_t rfl (xm_hangs (u := (f_active, f_epoch, a_dataNodeDown, a_journalDown, a_masterDown, a_inTouch, a_promise, a_base, a_logLength, a_logEpoch, a_logKind, a_logA, a_logB, a_logC, a_inodeState, a_inodePlace, a_inodeClient, a_closeUnits, a_rowLength, a_rowBlock, a_blockStamp, a_replicaHeld, a_replicaStamp, a_unitCount, a_unitValue)) h hI hD hb h5 (fun y => br_f bo_1 ?_) (fun y => br_t rfl ?_))))))))
            · rw [hhh.mpr y] at hp; exact hp
            · rw [show hh = false by cases hh; rfl; exact absurd (hhh.mp rfl) y] at hp; exact hp
      · rw [if_neg (fun y => z y.2.2)] at hp; exact hp
    · rw [if_neg (fun y => by omega)] at hp
      exact br_t k2 hp
    · rw [if_neg (fun y => by omega)] at hp
      refine br_f k3 ⟨hv, br_f ?_ hp⟩
      rw [hc, qt_ag5 h n hlt]
      obtain ⟨j, hj, rfl⟩ := nI_of k3
      have hj3 : 3 ≤ j := (nI_leI (a := 3) (by decide) hj).mp k2
      exact fun y => by have := (nI_ltI hj (by omega)).mp y; omega
  · rw [if_neg (fun y => by have := hs y.1; omega)] at hp; exact hp
theorem ym_block {v : SY} (hI : qt_iv T) (hL : sy_L (mu, ju, ac, ep, to, pr, ba, le, lg) v) (hD : sy_D (nu, st, un, ua) v) (hb : rd_bd (nu, st, un, ua)) (hac2 : ac ≤ 2) (hwf : ∀ j, j < 3 → qt_wf (lg j) (le j) ∧ le j ≤ 1000) (hT : 0 < ac → T = qt_ab (lg (lj_src to)) (le (lj_src to))) {post : Int32 → SY → Prop} {p q w : Int32} {n K : Nat} {hh : Bool} (hn : ix_c p 12 n) (hK : ix_c q 3 K) (hhh : hh = true ↔ rd_hg nu st (qt_ro T (3 * n + K)) (qt_sp T (qt_ro T (3 * n + K))))
    (h0 : ac = 0 → post (-1) v) (h1 : 0 < ac → ∀ v', sy_L (mu, ju, ac, ep, to, pr, ba, le, lg) v' → sy_D (nu, st, un, ua) v' → post (rl_bv T nu st un hh n K w) v') : wpY_block post v p q w := by
  obtain ⟨f_active, f_epoch, a_nodeUp, a_journalUp, a_masterUp, a_touch, a_log, a_many, a_promise, a_base, a_stamp, a_units, a_unit, a_sort, a_placeOf, a_client, a_rowLength, a_row, a_closedWith, a_stampOf⟩ := v
  refine cd_if (ym_act hL.1 hac2) (fun ha => ym_tell (v := (f_active, f_epoch, a_nodeUp, a_journalUp, a_masterUp, a_touch, a_log, a_many, a_promise, a_base, a_stamp, a_units, a_unit, a_sort, a_placeOf, a_client, a_rowLength, a_row, a_closedWith, a_stampOf)) hL hD hwf ?_) (fun za => h0 (by omega))
  rintro ⟨f_active, f_epoch, a_nodeUp, a_journalUp, a_masterUp, a_touch, a_log, a_many, a_promise, a_base, a_stamp, a_units, a_unit, a_sort, a_placeOf, a_client, a_rowLength, a_row, a_closedWith, a_stampOf⟩ gT gL gD
  rw [← hT ha] at gT
  have hp := h1 ha _ gL gD
  clear h0 h1
  unfold rl_bv at hp
  refine ym_isFile (v := (f_active, f_epoch, a_nodeUp, a_journalUp, a_masterUp, a_touch, a_log, a_many, a_promise, a_base, a_stamp, a_units, a_unit, a_sort, a_placeOf, a_client, a_rowLength, a_row, a_closedWith, a_stampOf)) gT hI hn (fun hlt hs => br_f bo_1 ?_) (fun hs => br_t rfl ?_)
  · have e := ix_i hn hlt
    subst e
    have hv := vp_in_nI hlt (by decide : 12 < 2 ^ 31)
    have hc : (nI n).toNatClampNeg = n := nI_clamp (by omega)
    have hr := qt_iv4 hI n hlt
    refine ⟨hv, ?_⟩
    rw [hc, qt_ag5 gT n hlt]
    have hKr : ∃ K', ix_c q (qt_rl T n) K' ∧ (K' < qt_rl T n → K' = K) ∧ (K < qt_rl T n → K' = K) := by
      rcases hK with ⟨k1, rfl⟩ | ⟨k1, k2 | ⟨k2, k3⟩⟩
      · by_cases z : K < qt_rl T n
        · exact ⟨K, Or.inl ⟨z, rfl⟩, fun _ => rfl, fun _ => rfl⟩
        · exact ⟨qt_rl T n, Or.inr ⟨rfl, Or.inr ⟨nI_le (by omega) (by omega), nI_pos (by omega)⟩⟩, fun y => by omega, fun y => by omega⟩
      · exact ⟨qt_rl T n, Or.inr ⟨rfl, Or.inl k2⟩, fun y => by omega, fun y => by omega⟩
      · exact ⟨qt_rl T n, Or.inr ⟨rfl, Or.inr ⟨Int32.le_trans (nI_le hr (by decide)) k2, k3⟩⟩, fun y => by omega, fun y => by omega⟩
    obtain ⟨K', hK', hk1, hk2⟩ := hKr
    refine ym_in hK' (by omega) rfl (fun z => br_f bo_1 ?_) (fun z => br_t rfl ?_)
    · have e := hk1 z
      subst e
      have e := ix_i hK' z
      subst e
      rw [if_pos ⟨hlt, hs, z⟩] at hp
      have h5 := qt_iv5 hI n K' hlt z
      have hsp := qt_iv8 hI _ h5
      rw [show 3 * nI n + nI K' = nI (3 * n + K') from mu_l n 3 K']
      refine ⟨vp_in_nI (by omega) (by decide), nm_r (e' := nI (qt_ro T (3 * n + K'))) (by rw [nI_clamp (by omega)]; exact qt_ag6 gT n K' hlt z) ?_⟩
      have hin : qt_in (qt_rl T) (qt_ro T) (qt_ro T (3 * n + K')) := ⟨n, K', hlt, z, rfl⟩
      generalize qt_ro T (3 * n + K') = b at hp h5 hsp hhh hin
      rcases ix_s (N := 4) (by decide) w with y | ⟨y, y2⟩ | ⟨w, hw, rfl⟩
      · rw [if_neg (show ¬ w = 0 from sw_n (c := 0) y (by decide)), if_neg (show ¬ w = 1 from sw_n (c := 1) y (by decide)), if_neg (show ¬ w = 2 from sw_n (c := 2) y (by decide)), if_neg (show ¬ w = 3 from sw_n (c := 3) y (by decide)), if_neg (show ¬ w = 4 from sw_n (c := 4) y (by decide))] at hp
        exact br_t y hp
      · rw [if_neg (show ¬ w = 0 from sw_g (c := 0) y2 (by decide) (by decide)), if_neg (show ¬ w = 1 from sw_g (c := 1) y2 (by decide) (by decide)), if_neg (show ¬ w = 2 from sw_g (c := 2) y2 (by decide) (by decide)), if_neg (show ¬ w = 3 from sw_g (c := 3) y2 (by decide) (by decide)), if_neg (show ¬ w = 4 from sw_g (c := 4) y2 (by decide) (by decide))] at hp
        exact br_f y (br_t y2 hp)
      · match w, hw with
        | 0, _ =>
          rw [if_pos (by decide)] at hp
          exact br_f (by decide) (br_f (by decide) (br_t rfl hp))
        | 1, _ =>
          rw [if_neg (by decide), if_pos (by decide)] at hp
          refine br_f (by decide) (br_f (by decide) (br_f (by decide) (br_t rfl ⟨vp_in_nI h5 (by decide), ?_⟩)))
          rw [nI_clamp (by omega), qt_ag7 gT b h5 (Or.inr hin)]; exact hp
        | 2, _ =>
          rw [if_neg (by decide), if_neg (by decide), if_pos (by decide)] at hp
          exact br_f (by decide) (br_f (by decide) (br_f (by decide) (br_f (by decide) (br_t rfl (ym_goodOnes (v := (f_active, f_epoch, a_nodeUp, a_journalUp, a_masterUp, a_touch, a_log, a_many, a_promise, a_base, a_stamp, a_units, a_unit, a_sort, a_placeOf, a_client, a_rowLength, a_row, a_closedWith, a_stampOf)) gT hI gD hb h5 hin hp)))))
        | 3, _ =>
          rw [if_neg (by decide), if_neg (by decide), if_neg (by decide), if_pos (by decide)] at hp
          exact br_f (by decide) (br_f (by decide) (br_f (by decide) (br_f (by decide) (br_f (by decide) (br_t rfl (ym_bound0 (v := (f_active, f_epoch, a_nodeUp, a_journalUp, a_masterUp, a_touch, a_log, a_many, a_promise, a_base, a_stamp, a_units, a_unit, a_sort, a_placeOf, a_client, a_rowLength, a_row, a_closedWith, a_stampOf)) gT hI gD hb h5 hin hp))))))
        | 4, _ =>
          rw [if_neg (by decide), if_neg (by decide), if_neg (by decide), if_neg (by decide), if_pos (by decide)] at hp
          refine br_f (by decide) (br_f (by decide) (br_f (by decide) (br_f (by decide) (br_f (by decide) (br_f (by decide) (br_t rfl (ym_hangs (v := (f_active, f_epoch, a_nodeUp, a_journalUp, a_masterUp, a_touch, a_log, a_many, a_promise, a_base, a_stamp, a_units, a_unit, a_sort, a_placeOf, a_client, a_rowLength, a_row, a_closedWith, a_stampOf)) gT hI gD hb h5 hin (fun y => br_f bo_1 ?_) (fun y => br_t rfl ?_))))))))
          · rw [hhh.mpr y] at hp; exact hp
          · rw [show hh = false by cases hh; rfl; exact absurd (hhh.mp rfl) y] at hp; exact hp
    · rw [if_neg (fun y => by have := hk2 y.2.2; have := y.2.2; omega)] at hp; exact hp
  · rw [if_neg (fun y => by have := hs y.1; omega)] at hp; exact hp
end
theorem i_vc_block {k : Nat} {u : SX} {v : SY} (I : i_Rel k u v) (hk : k + 4 ≤ 2048) (v1 : Int32) (v2 : Int32) (v3 : Int32) : wpX_block (fun r => wpY_block (fun r' v' => r' = r ∧ i_Rel (k + 4) u v') v v1 v2 v3) u v1 v2 v3 := by
  have I' := i_up I
  obtain ⟨T, ⟨mu, ju, ac, ep, to, pr, ba, le, lg⟩, ⟨nu, st, un, ua⟩, h1, h2, h3, h4, h5, h6, h7, h8⟩ := I
  have hb := rl_bd h7 (by omega) h8
  have i5 := h7.2.2.2.2.1
  have R0 : ∀ v', sy_L (mu, ju, ac, ep, to, pr, ba, le, lg) v' → sy_D (nu, st, un, ua) v' → i_Rel (k + 4) u v' := fun v' g1 g2 => ⟨T, _, _, h1, h2, h3, g1, g2, h6, lj_ivK (by omega) h7, h8⟩
  obtain ⟨n, hn⟩ := ix_e v1 (N := 12) (by decide)
  obtain ⟨K, hK⟩ := ix_e v2 (N := 3) (by decide)
  obtain ⟨hh, hhh⟩ : ∃ hh : Bool, hh = true ↔ rd_hg nu st (qt_ro T (3 * n + K)) (qt_sp T (qt_ro T (3 * n + K))) := by
    obtain ⟨f, hf⟩ := bo_ex (fun _ => rd_hg nu st (qt_ro T (3 * n + K)) (qt_sp T (qt_ro T (3 * n + K))))
    exact ⟨f 0, hf 0⟩
  have Y := fun (r : Int32) (a : ac = 0 → -1 = r) (b : 0 < ac → rl_bv T nu st un hh n K v3 = r) => ym_block (post := fun r' v' => r' = r ∧ i_Rel (k + 4) u v') h6 h4 h5 hb h7.2.1 (fun j hj => ⟨(i5 j hj).1, (i5 j hj).2.2.2⟩) (fun z => (h7.2.2.2.2.2 z).2.2) hn hK hhh (fun z => ⟨a z, I'⟩) (fun z v' g1 g2 => ⟨b z, R0 v' g1 g2⟩)
  exact xm_block h1 h6 h2 h3 hb h7.2.1 hn hK hhh (fun z => Y _ (fun _ => rfl) (fun y => by omega)) (fun z => Y _ (fun y => by omega) (fun _ => rfl))
end
section
/-! pass -/
def rd_lv (f : Nat → Bool) (b d : Nat) : Int32 := if rd_lo f d = 0 then -1 else nI (16 * (rd_lo f d - 1) + b)
theorem rd_lvT {f : Nat → Bool} {b d : Nat} (h : f d = true) : rd_lv f b (d + 1) = nI (16 * d + b) := by
  unfold rd_lv
  rw [rd_loS, if_pos h, if_neg (by omega)]; rfl
theorem rd_lvF {f : Nat → Bool} {b d : Nat} (h : f d = false) : rd_lv f b (d + 1) = rd_lv f b d := by
  unfold rd_lv
  have e : rd_lo f (d + 1) = rd_lo f d := by rw [rd_loS, h]; rfl
  rw [e]
section
variable {T : qt_T} {mu ju : Nat → Bool} {ac ep : Nat} {to : Nat → Bool} {pr ba le : Nat → Nat} {lg : Nat → Nat → qt_R} {nu : Nat → Bool} {st un : Nat → Nat} {ua : Nat → Int32}
theorem xm_putUnit {u : SX} (h : sx_T T u) (hL : sx_L (mu, ju, ac, ep, to, pr, ba, le, lg) u) (hD : sx_D (nu, st, un, ua) u) {post : SX → Prop} {c : Nat} {x : Int32} (hc : c < 80) (hu : un c < 8) (hp : ∀ u', sx_T T u' → sx_L (mu, ju, ac, ep, to, pr, ba, le, lg) u' → sx_D (nu, st, qt_u un c (un c + 1), upd ua (8 * c + un c) x) u' → post u') : wpX_putUnit post u (nI c) x := by
  obtain ⟨f_active, f_epoch, a_dataNodeDown, a_journalDown, a_masterDown, a_inTouch, a_promise, a_base, a_logLength, a_logEpoch, a_logKind, a_logA, a_logB, a_logC, a_inodeState, a_inodePlace, a_inodeClient, a_closeUnits, a_rowLength, a_rowBlock, a_blockStamp, a_replicaHeld, a_replicaStamp, a_unitCount, a_unitValue⟩ := u
  obtain ⟨l1, l2, l3, l4, l5, l6, l7, l8, l9⟩ := hL
  obtain ⟨d1, d2, d3, d4, d5⟩ := hD
  have h' : qt_ag True T a_inodeState a_inodePlace a_inodeClient a_closeUnits a_rowLength a_rowBlock a_blockStamp := h
  have hv := vp_in_nI hc (by decide : 80 < 2 ^ 31)
  have hcc : (nI c).toNatClampNeg = c := nI_clamp (by omega)
  refine ⟨hv, ?_⟩
  rw [hcc, d4 c hc, show nI c * 8 + nI (un c) = nI (8 * c + un c) from mu_r c 8 (un c), show (nI (8 * c + un c)).toNatClampNeg = 8 * c + un c from nI_clamp (by omega), nI_1]
  refine br_f (lb_f hu) ⟨hv, vp_in_nI (by omega) (by decide), nm_e ⟨hv, hv, nm_e (hp _ h' ⟨l1, l2, l3, l4, l5, l6, l7, l8, l9⟩ ⟨d1, d2, d3, ?_, ?_⟩)⟩⟩
  · intro j hj
    by_cases z : j = c
    · subst z; rw [pk_us, qt_us]
    · rw [pk_un z, qt_un z]; exact d4 j hj
  · rw [d5]
theorem xm_passUnitWithin {u : SX} (h : sx_T T u) (hI : qt_iv T) (hL : sx_L (mu, ju, ac, ep, to, pr, ba, le, lg) u) (hD : sx_D (nu, st, un, ua) u) (hb : rd_bd (nu, st, un, ua)) {post : Int32 → SX → Prop} {b : Nat} (hb16 : b < 16) (h0 : (∀ d, d < 5 → ¬ rd_pd (rd_g nu st b (qt_sp T b)) un b d) → post 0 u)
    (h1 : ∀ d, d < 5 → rd_pd (rd_g nu st b (qt_sp T b)) un b d → (∀ e, e < d → ¬ rd_pd (rd_g nu st b (qt_sp T b)) un b e) → ∀ u', sx_T T u' → sx_L (mu, ju, ac, ep, to, pr, ba, le, lg) u' → sx_D (rd_ps (nu, st, un, ua) b d (rd_lo (rd_g nu st b (qt_sp T b)) d - 1)) u' → post 1 u') : wpX_passUnitWithin post u (nI b) := by
  obtain ⟨f_active, f_epoch, a_dataNodeDown, a_journalDown, a_masterDown, a_inTouch, a_promise, a_base, a_logLength, a_logEpoch, a_logKind, a_logA, a_logB, a_logC, a_inodeState, a_inodePlace, a_inodeClient, a_closeUnits, a_rowLength, a_rowBlock, a_blockStamp, a_replicaHeld, a_replicaStamp, a_unitCount, a_unitValue⟩ := u
  unfold wpX_passUnitWithin
  refine xm_goodNodes (u := (f_active, f_epoch, a_dataNodeDown, a_journalDown, a_masterDown, a_inTouch, a_promise, a_base, a_logLength, a_logEpoch, a_logKind, a_logA, a_logB, a_logC, a_inodeState, a_inodePlace, a_inodeClient, a_closeUnits, a_rowLength, a_rowBlock, a_blockStamp, a_replicaHeld, a_replicaStamp, a_unitCount, a_unitValue)) h hI hD hb hb16 ?_
  generalize rd_g nu st b (qt_sp T b) = f at h0 h1
  have key : ∀ k n d, d + k = 5 → k < n → (∀ e, e < d → ¬ rd_pd f un b e) → wX_passUnitWithin_11 post (nI b) (nI (rd_mk f 5)) f_active f_epoch a_dataNodeDown a_journalDown a_masterDown a_inTouch a_promise a_base a_logLength a_logEpoch a_logKind a_logA a_logB a_logC a_inodeState a_inodePlace a_inodeClient a_closeUnits a_rowLength a_rowBlock a_blockStamp a_replicaHeld a_replicaStamp a_unitCount a_unitValue n (rd_lv f b d) (nI d) := by
    intro k
    induction k with
    | zero =>
      intro n d hd hn H
      obtain ⟨n, rfl⟩ : ∃ n', n = n' + 1 := ⟨n - 1, by omega⟩
      have e : d = 5 := by omega
      subst e
      exact br_t lb_t (h0 H)
    | succ k ih =>
      intro n d hd hn H
      obtain ⟨n, rfl⟩ : ∃ n', n = n' + 1 := ⟨n - 1, by omega⟩
      have hd5 : d < 5 := by omega
      have hc : 16 * d + b < 80 := by omega
      have hu := hb.2 _ hc
      have go : ¬ rd_pd f un b d → wX_passUnitWithin_11 post (nI b) (nI (rd_mk f 5)) f_active f_epoch a_dataNodeDown a_journalDown a_masterDown a_inTouch a_promise a_base a_logLength a_logEpoch a_logKind a_logA a_logB a_logC a_inodeState a_inodePlace a_inodeClient a_closeUnits a_rowLength a_rowBlock a_blockStamp a_replicaHeld a_replicaStamp a_unitCount a_unitValue n (rd_lv f b (d + 1)) (nI (d + 1)) := by
        intro z
        refine ih n (d + 1) (by omega) (by omega) (fun e he => ?_)
        by_cases e' : e = d
        · subst e'; exact z
        · exact H e (by omega)
      refine br_f (lb_f hd5) (xm_isIn hd5 (fun z => br_f bo_1 (nm_r (mu_r d 16 b) ?_)) (fun z => br_t rfl (nm_r (nI_1 d) ?_)))
      · by_cases hl : rd_lo f d = 0
        · have e : rd_lv f b d = -1 := if_pos hl
          rw [e]
          refine br_t rfl (nm_r (nI_1 d) ?_)
          have := go (fun y => by have := y.2.1; omega)
          rw [rd_lvT z] at this
          exact this
        · have hle : rd_lo f d ≤ d := by rcases rd_loP (f := f) (n := d) with y | y <;> omega
          have hc2 : 16 * (rd_lo f d - 1) + b < 80 := by omega
          have hu2 := hb.2 _ hc2
          have e : rd_lv f b d = nI (16 * (rd_lo f d - 1) + b) := if_neg hl
          rw [e]
          have eu : a_unitCount (nI (16 * d + b)).toNatClampNeg = nI (un (16 * d + b)) := by rw [nI_clamp (by omega)]; exact hD.2.2.2.1 _ hc
          have eu2 : a_unitCount (nI (16 * (rd_lo f d - 1) + b)).toNatClampNeg = nI (un (16 * (rd_lo f d - 1) + b)) := by rw [nI_clamp (by omega)]; exact hD.2.2.2.1 _ hc2
          refine br_f (ix_m1 (by omega)) ⟨vp_in_nI hc (by decide), vp_in_nI hc2 (by decide), ?_⟩
          rw [eu, eu2]
          refine cd_if (nI_leI (by omega) (by omega)) (fun y => nm_r (nI_1 d) ?_) (fun y => ⟨vp_in_nI hc (by decide), ?_⟩)
          · have := go (fun x => by have := x.2.2; omega)
            rw [rd_lvT z] at this
            exact this
          · rw [show nI (16 * (rd_lo f d - 1) + b) * 8 + nI (un (16 * d + b)) = nI (8 * (16 * (rd_lo f d - 1) + b) + un (16 * d + b)) from mu_r _ 8 _]
            refine ⟨vp_in_nI (by omega) (by decide), xm_putUnit (u := (f_active, f_epoch, a_dataNodeDown, a_journalDown, a_masterDown, a_inTouch, a_promise, a_base, a_logLength, a_logEpoch, a_logKind, a_logA, a_logB, a_logC, a_inodeState, a_inodePlace, a_inodeClient, a_closeUnits, a_rowLength, a_rowBlock, a_blockStamp, a_replicaHeld, a_replicaStamp, a_unitCount, a_unitValue)) h hL hD hc (by omega) ?_⟩
            rintro ⟨f_active, f_epoch, a_dataNodeDown, a_journalDown, a_masterDown, a_inTouch, a_promise, a_base, a_logLength, a_logEpoch, a_logKind, a_logA, a_logB, a_logC, a_inodeState, a_inodePlace, a_inodeClient, a_closeUnits, a_rowLength, a_rowBlock, a_blockStamp, a_replicaHeld, a_replicaStamp, a_unitCount, a_unitValue⟩ g1 g2 g3
            refine h1 d hd5 ⟨z, by omega, by omega⟩ H _ g1 g2 ?_
            rw [nI_clamp (by omega), hD.2.2.2.2] at g3
            exact g3
      · have := go (fun y => absurd (z.symm.trans y.1) (by decide))
        rw [rd_lvF z] at this
        exact this
  exact ⟨6, key 5 6 0 (by omega) (by omega) (fun e he => by omega)⟩
theorem xm_passOne {u : SX} (h : sx_T T u) (hI : qt_iv T) (hL : sx_L (mu, ju, ac, ep, to, pr, ba, le, lg) u) (hD : sx_D (nu, st, un, ua) u) (hb : rd_bd (nu, st, un, ua)) {post : Int32 → SX → Prop} (h0 : (∀ b, b < 16 → ¬ rd_pg T nu st un b) → post 0 u)
    (h1 : ∀ b d, b < 16 → d < 5 → qt_ol T b → (∀ e, e < b → ¬ rd_pg T nu st un e) → rd_pd (rd_g nu st b (qt_sp T b)) un b d → (∀ e, e < d → ¬ rd_pd (rd_g nu st b (qt_sp T b)) un b e) → ∀ u', sx_T T u' → sx_L (mu, ju, ac, ep, to, pr, ba, le, lg) u' → sx_D (rd_ps (nu, st, un, ua) b d (rd_lo (rd_g nu st b (qt_sp T b)) d - 1)) u' → post 1 u') : wpX_passOneUnit post u := by
  obtain ⟨f_active, f_epoch, a_dataNodeDown, a_journalDown, a_masterDown, a_inTouch, a_promise, a_base, a_logLength, a_logEpoch, a_logKind, a_logA, a_logB, a_logC, a_inodeState, a_inodePlace, a_inodeClient, a_closeUnits, a_rowLength, a_rowBlock, a_blockStamp, a_replicaHeld, a_replicaStamp, a_unitCount, a_unitValue⟩ := u
  have key : ∀ k n b, b + k = 16 → k < n → (∀ e, e < b → ¬ rd_pg T nu st un e) → wX_passOneUnit_2 post n (nI b) f_active f_epoch a_dataNodeDown a_journalDown a_masterDown a_inTouch a_promise a_base a_logLength a_logEpoch a_logKind a_logA a_logB a_logC a_inodeState a_inodePlace a_inodeClient a_closeUnits a_rowLength a_rowBlock a_blockStamp a_replicaHeld a_replicaStamp a_unitCount a_unitValue := by
    intro k
    induction k with
    | zero =>
      intro n b hb' hn H
      obtain ⟨n, rfl⟩ : ∃ n', n = n' + 1 := ⟨n - 1, by omega⟩
      have e : b = 16 := by omega
      subst e
      exact br_t lb_t (h0 H)
    | succ k ih =>
      intro n b hb' hn H
      obtain ⟨n, rfl⟩ : ∃ n', n = n' + 1 := ⟨n - 1, by omega⟩
      have hb16 : b < 16 := by omega
      have go : ¬ rd_pg T nu st un b → wX_passOneUnit_2 post n (nI (b + 1)) f_active f_epoch a_dataNodeDown a_journalDown a_masterDown a_inTouch a_promise a_base a_logLength a_logEpoch a_logKind a_logA a_logB a_logC a_inodeState a_inodePlace a_inodeClient a_closeUnits a_rowLength a_rowBlock a_blockStamp a_replicaHeld a_replicaStamp a_unitCount a_unitValue := by
        intro z
        refine ih n (b + 1) (by omega) (by omega) (fun e he => ?_)
        by_cases e' : e = b
        · subst e'; exact z
        · exact H e (by omega)
      refine br_f (lb_f hb16) (xm_isLastOfOpenFile (u := (f_active, f_epoch, a_dataNodeDown, a_journalDown, a_masterDown, a_inTouch, a_promise, a_base, a_logLength, a_logEpoch, a_logKind, a_logA, a_logB, a_logC, a_inodeState, a_inodePlace, a_inodeClient, a_closeUnits, a_rowLength, a_rowBlock, a_blockStamp, a_replicaHeld, a_replicaStamp, a_unitCount, a_unitValue)) h hI hb16 (fun ho => br_f bo_1 ?_) (fun ho => br_t rfl (nm_r (nI_1 b) (go (fun z => ho z.1)))))
      refine xm_passUnitWithin (u := (f_active, f_epoch, a_dataNodeDown, a_journalDown, a_masterDown, a_inTouch, a_promise, a_base, a_logLength, a_logEpoch, a_logKind, a_logA, a_logB, a_logC, a_inodeState, a_inodePlace, a_inodeClient, a_closeUnits, a_rowLength, a_rowBlock, a_blockStamp, a_replicaHeld, a_replicaStamp, a_unitCount, a_unitValue)) h hI hL hD hb hb16 (fun z => br_t rfl (nm_r (nI_1 b) (go (fun y => ?_)))) (fun d hd hp hl => ?_)
      · obtain ⟨_, d, hd, hp⟩ := y
        exact z d hd hp
      · rintro ⟨f_active, f_epoch, a_dataNodeDown, a_journalDown, a_masterDown, a_inTouch, a_promise, a_base, a_logLength, a_logEpoch, a_logKind, a_logA, a_logB, a_logC, a_inodeState, a_inodePlace, a_inodeClient, a_closeUnits, a_rowLength, a_rowBlock, a_blockStamp, a_replicaHeld, a_replicaStamp, a_unitCount, a_unitValue⟩ g1 g2 g3
        exact br_f bo_1 (h1 b d hb16 hd ho H hp hl _ g1 g2 g3)
  exact ⟨17, key 16 17 0 (by omega) (by omega) (fun e he => by omega)⟩
theorem ym_passIn {v : SY} (h : sy_T T v) (hI : qt_iv T) (hL : sy_L (mu, ju, ac, ep, to, pr, ba, le, lg) v) (hD : sy_D (nu, st, un, ua) v) (hb : rd_bd (nu, st, un, ua)) {post : Int32 → SY → Prop} {b : Nat} (hb16 : b < 16) (hin : qt_in (qt_rl T) (qt_ro T) b) (h0 : (∀ d, d < 5 → ¬ rd_pd (rd_g nu st b (qt_sp T b)) un b d) → post 0 v)
    (h1 : ∀ d, d < 5 → rd_pd (rd_g nu st b (qt_sp T b)) un b d → (∀ e, e < d → ¬ rd_pd (rd_g nu st b (qt_sp T b)) un b e) → ∀ v', sy_T T v' → sy_L (mu, ju, ac, ep, to, pr, ba, le, lg) v' → sy_D (rd_ps (nu, st, un, ua) b d (rd_lo (rd_g nu st b (qt_sp T b)) d - 1)) v' → post 1 v') : wpY_passIn post v (nI b) := by
  obtain ⟨f_active, f_epoch, a_nodeUp, a_journalUp, a_masterUp, a_touch, a_log, a_many, a_promise, a_base, a_stamp, a_units, a_unit, a_sort, a_placeOf, a_client, a_rowLength, a_row, a_closedWith, a_stampOf⟩ := v
  have h' : qt_ag False T a_sort a_placeOf a_client a_closedWith a_rowLength a_row a_stampOf := h
  have key : ∀ k n d, d + k = 5 → k < n → (∀ e, e < d → ¬ rd_pd (rd_g nu st b (qt_sp T b)) un b e) → wY_passIn_4 post (nI b) f_active f_epoch a_nodeUp a_journalUp a_masterUp a_touch a_log a_many a_promise a_base a_stamp a_units a_unit a_sort a_placeOf a_client a_rowLength a_row a_closedWith a_stampOf n (rd_lv (rd_g nu st b (qt_sp T b)) b d) (nI d) := by
    intro k
    induction k with
    | zero =>
      intro n d hd hn H
      obtain ⟨n, rfl⟩ : ∃ n', n = n' + 1 := ⟨n - 1, by omega⟩
      have e : d = 5 := by omega
      subst e
      exact br_t lb_t (h0 H)
    | succ k ih =>
      intro n d hd hn H
      obtain ⟨n, rfl⟩ : ∃ n', n = n' + 1 := ⟨n - 1, by omega⟩
      have hd5 : d < 5 := by omega
      have hc : 16 * d + b < 80 := by omega
      have hu := hb.2 _ hc
      have go : ¬ rd_pd (rd_g nu st b (qt_sp T b)) un b d → wY_passIn_4 post (nI b) f_active f_epoch a_nodeUp a_journalUp a_masterUp a_touch a_log a_many a_promise a_base a_stamp a_units a_unit a_sort a_placeOf a_client a_rowLength a_row a_closedWith a_stampOf n (rd_lv (rd_g nu st b (qt_sp T b)) b (d + 1)) (nI (d + 1)) := by
        intro z
        refine ih n (d + 1) (by omega) (by omega) (fun e he => ?_)
        by_cases e' : e = d
        · subst e'; exact z
        · exact H e (by omega)
      refine br_f (lb_f hd5) (ym_isGood (v := (f_active, f_epoch, a_nodeUp, a_journalUp, a_masterUp, a_touch, a_log, a_many, a_promise, a_base, a_stamp, a_units, a_unit, a_sort, a_placeOf, a_client, a_rowLength, a_row, a_closedWith, a_stampOf)) h hI hD hb hb16 hin hd5 (fun z => br_f bo_1 (nm_r (mu_l d 16 b) ?_)) (fun z => br_t rfl (nm_r (nI_1 d) ?_)))
      · by_cases hl : rd_lo (rd_g nu st b (qt_sp T b)) d = 0
        · have e : rd_lv (rd_g nu st b (qt_sp T b)) b d = -1 := if_pos hl
          rw [e]
          refine br_t (by decide) (nm_r (nI_1 d) ?_)
          have := go (fun y => by have := y.2.1; omega)
          rw [rd_lvT z] at this
          exact this
        · have hle : rd_lo (rd_g nu st b (qt_sp T b)) d ≤ d := by rcases rd_loP (f := rd_g nu st b (qt_sp T b)) (n := d) with y | y <;> omega
          have hc2 : 16 * (rd_lo (rd_g nu st b (qt_sp T b)) d - 1) + b < 80 := by omega
          have hu2 := hb.2 _ hc2
          have e : rd_lv (rd_g nu st b (qt_sp T b)) b d = nI (16 * (rd_lo (rd_g nu st b (qt_sp T b)) d - 1) + b) := if_neg hl
          rw [e]
          generalize hlo : rd_lo (rd_g nu st b (qt_sp T b)) d - 1 = lo at hc2 hu2
          have hcc : (nI (16 * d + b)).toNatClampNeg = 16 * d + b := nI_clamp (by omega)
          have eu : a_units (nI (16 * d + b)).toNatClampNeg = nI (un (16 * d + b)) := by rw [hcc]; exact hD.2.2.1 _ hc
          have eu2 : a_units (nI (16 * lo + b)).toNatClampNeg = nI (un (16 * lo + b)) := by rw [nI_clamp (by omega)]; exact hD.2.2.1 _ hc2
          have hv := vp_in_nI hc (by decide : 80 < 2 ^ 31)
          refine br_f (nI_pos (by omega)) ⟨hv, vp_in_nI hc2 (by decide), ?_⟩
          rw [eu, eu2]
          refine cd_if (nI_leI (by omega) (by omega)) (fun y => nm_r (nI_1 d) ?_) (fun y => ⟨hv, hv, ?_⟩)
          · have := go (fun x => by have := x.2.2; rw [hlo] at this; omega)
            rw [rd_lvT z] at this
            exact this
          · rw [show 8 * nI (16 * lo + b) + nI (un (16 * d + b)) = nI (8 * (16 * lo + b) + un (16 * d + b)) from mu_l _ 8 _, show 8 * nI (16 * d + b) + nI (un (16 * d + b)) = nI (8 * (16 * d + b) + un (16 * d + b)) from mu_l _ 8 _, hcc, show (nI (8 * (16 * lo + b) + un (16 * d + b))).toNatClampNeg = 8 * (16 * lo + b) + un (16 * d + b) from nI_clamp (by omega), show (nI (8 * (16 * d + b) + un (16 * d + b))).toNatClampNeg = 8 * (16 * d + b) + un (16 * d + b) from nI_clamp (by omega), nI_1]
            obtain ⟨l1, l2, l3, l4, l5, l6, l7, l8, l9⟩ := hL
            obtain ⟨d1, d2, d3, d4⟩ := hD
            refine ⟨vp_in_nI (by omega) (by decide), vp_in_nI (by omega) (by decide), nm_e ⟨hv, hv, nm_e (h1 d hd5 ⟨z, by omega, by rw [hlo]; omega⟩ H _ h' ⟨l1, l2, l3, l4, l5, l6, l7, l8, l9⟩ ?_)⟩⟩
            rw [hlo]
            refine ⟨d1, d2, ?_, ?_⟩
            · intro j hj
              by_cases z : j = 16 * d + b
              · subst z; rw [pk_us, qt_us]
              · rw [pk_un z, qt_un z]; exact d3 j hj
            · rw [d4]
      · have := go (fun y => absurd (z.symm.trans y.1) (by decide))
        rw [rd_lvF z] at this
        exact this
  exact ⟨6, key 5 6 0 (by omega) (by omega) (fun e he => by omega)⟩
theorem ym_passOne {v : SY} (h : sy_T T v) (hI : qt_iv T) (hL : sy_L (mu, ju, ac, ep, to, pr, ba, le, lg) v) (hD : sy_D (nu, st, un, ua) v) (hb : rd_bd (nu, st, un, ua)) {post : Int32 → SY → Prop} (h0 : (∀ b, b < 16 → ¬ rd_pg T nu st un b) → post 0 v)
    (h1 : ∀ b d, b < 16 → d < 5 → qt_ol T b → (∀ e, e < b → ¬ rd_pg T nu st un e) → rd_pd (rd_g nu st b (qt_sp T b)) un b d → (∀ e, e < d → ¬ rd_pd (rd_g nu st b (qt_sp T b)) un b e) → ∀ v', sy_T T v' → sy_L (mu, ju, ac, ep, to, pr, ba, le, lg) v' → sy_D (rd_ps (nu, st, un, ua) b d (rd_lo (rd_g nu st b (qt_sp T b)) d - 1)) v' → post 1 v') : wpY_passOne post v := by
  obtain ⟨f_active, f_epoch, a_nodeUp, a_journalUp, a_masterUp, a_touch, a_log, a_many, a_promise, a_base, a_stamp, a_units, a_unit, a_sort, a_placeOf, a_client, a_rowLength, a_row, a_closedWith, a_stampOf⟩ := v
  have key : ∀ k n b, b + k = 16 → k < n → (∀ e, e < b → ¬ rd_pg T nu st un e) → wY_passOne_2 post n (nI b) f_active f_epoch a_nodeUp a_journalUp a_masterUp a_touch a_log a_many a_promise a_base a_stamp a_units a_unit a_sort a_placeOf a_client a_rowLength a_row a_closedWith a_stampOf := by
    intro k
    induction k with
    | zero =>
      intro n b hb' hn H
      obtain ⟨n, rfl⟩ : ∃ n', n = n' + 1 := ⟨n - 1, by omega⟩
      have e : b = 16 := by omega
      subst e
      exact br_t lb_t (h0 H)
    | succ k ih =>
      intro n b hb' hn H
      obtain ⟨n, rfl⟩ : ∃ n', n = n' + 1 := ⟨n - 1, by omega⟩
      have hb16 : b < 16 := by omega
      have go : ¬ rd_pg T nu st un b → wY_passOne_2 post n (nI (b + 1)) f_active f_epoch a_nodeUp a_journalUp a_masterUp a_touch a_log a_many a_promise a_base a_stamp a_units a_unit a_sort a_placeOf a_client a_rowLength a_row a_closedWith a_stampOf := by
        intro z
        refine ih n (b + 1) (by omega) (by omega) (fun e he => ?_)
        by_cases e' : e = b
        · subst e'; exact z
        · exact H e (by omega)
      refine br_f (lb_f hb16) (ym_isOpenLast (v := (f_active, f_epoch, a_nodeUp, a_journalUp, a_masterUp, a_touch, a_log, a_many, a_promise, a_base, a_stamp, a_units, a_unit, a_sort, a_placeOf, a_client, a_rowLength, a_row, a_closedWith, a_stampOf)) h hI hb16 (fun ho => br_f bo_1 ?_) (fun ho => br_t rfl (br_t rfl (nm_r (nI_1 b) (go (fun z => ho z.1))))))
      refine ym_passIn (v := (f_active, f_epoch, a_nodeUp, a_journalUp, a_masterUp, a_touch, a_log, a_many, a_promise, a_base, a_stamp, a_units, a_unit, a_sort, a_placeOf, a_client, a_rowLength, a_row, a_closedWith, a_stampOf)) h hI hL hD hb hb16 (qt_olI ho) (fun z => br_t rfl (nm_r (nI_1 b) (go (fun y => ?_)))) (fun d hd hp hl => ?_)
      · obtain ⟨_, d, hd, hp⟩ := y
        exact z d hd hp
      · rintro ⟨f_active, f_epoch, a_nodeUp, a_journalUp, a_masterUp, a_touch, a_log, a_many, a_promise, a_base, a_stamp, a_units, a_unit, a_sort, a_placeOf, a_client, a_rowLength, a_row, a_closedWith, a_stampOf⟩ g1 g2 g3
        exact br_f bo_1 (h1 b d hb16 hd ho H hp hl _ g1 g2 g3)
  exact ⟨17, key 16 17 0 (by omega) (by omega) (fun e he => by omega)⟩
end
end
section
/-! pass: both in step -/
theorem rl_pass {T : qt_T} {mu ju : Nat → Bool} {ac ep : Nat} {to : Nat → Bool} {pr ba le : Nat → Nat} {lg : Nat → Nat → qt_R} {nu : Nat → Bool} {st : Nat → Nat} (hI : qt_iv T) {N : Nat} (hN : N ≤ 32) (hst : ∀ c, c < 80 → st c ≤ 2000000) : ∀ m done (un : Nat → Nat) (ua : Nat → Int32), done + m = N → (∀ c, c < 80 → un c ≤ 8) → ∃ (r : Nat) (un' : Nat → Nat) (ua' : Nat → Int32), (∀ c, c < 80 → un' c ≤ 8)
    ∧ (∀ (post : Int32 → SX → Prop) f_active f_epoch a_dataNodeDown a_journalDown a_masterDown a_inTouch a_promise a_base a_logLength a_logEpoch a_logKind a_logA a_logB a_logC a_inodeState a_inodePlace a_inodeClient a_closeUnits a_rowLength a_rowBlock a_blockStamp a_replicaHeld a_replicaStamp a_unitCount a_unitValue, sx_T T (f_active, f_epoch, a_dataNodeDown, a_journalDown, a_masterDown, a_inTouch, a_promise, a_base, a_logLength, a_logEpoch, a_logKind, a_logA, a_logB, a_logC, a_inodeState, a_inodePlace, a_inodeClient, a_closeUnits, a_rowLength, a_rowBlock, a_blockStamp, a_replicaHeld, a_replicaStamp, a_unitCount, a_unitValue) → sx_L (mu, ju, ac, ep, to, pr, ba, le, lg) (f_active, f_epoch, a_dataNodeDown, a_journalDown, a_masterDown, a_inTouch, a_promise, a_base, a_logLength, a_logEpoch, a_logKind, a_logA, a_logB, a_logC, a_inodeState, a_inodePlace, a_inodeClient, a_closeUnits, a_rowLength, a_rowBlock, a_blockStamp, a_replicaHeld, a_replicaStamp, a_unitCount, a_unitValue) → sx_D (nu, st, un, ua) (f_active, f_epoch, a_dataNodeDown, a_journalDown, a_masterDown, a_inTouch, a_promise, a_base, a_logLength, a_logEpoch, a_logKind, a_logA, a_logB, a_logC, a_inodeState, a_inodePlace, a_inodeClient, a_closeUnits, a_rowLength, a_rowBlock, a_blockStamp, a_replicaHeld, a_replicaStamp, a_unitCount, a_unitValue) → (∀ u', sx_T T u' → sx_L (mu, ju, ac, ep, to, pr, ba, le, lg) u' → sx_D (nu, st, un', ua') u' → post (nI r) u') → ∀ n, m < n → wX_pass_25 post (nI N) n (nI done) f_active f_epoch a_dataNodeDown a_journalDown a_masterDown a_inTouch a_promise a_base a_logLength a_logEpoch a_logKind a_logA a_logB a_logC a_inodeState a_inodePlace a_inodeClient a_closeUnits a_rowLength a_rowBlock a_blockStamp a_replicaHeld a_replicaStamp a_unitCount a_unitValue)
    ∧ (∀ (post : Int32 → SY → Prop) f_active f_epoch a_nodeUp a_journalUp a_masterUp a_touch a_log a_many a_promise a_base a_stamp a_units a_unit a_sort a_placeOf a_client a_rowLength a_row a_closedWith a_stampOf, sy_T T (f_active, f_epoch, a_nodeUp, a_journalUp, a_masterUp, a_touch, a_log, a_many, a_promise, a_base, a_stamp, a_units, a_unit, a_sort, a_placeOf, a_client, a_rowLength, a_row, a_closedWith, a_stampOf) → sy_L (mu, ju, ac, ep, to, pr, ba, le, lg) (f_active, f_epoch, a_nodeUp, a_journalUp, a_masterUp, a_touch, a_log, a_many, a_promise, a_base, a_stamp, a_units, a_unit, a_sort, a_placeOf, a_client, a_rowLength, a_row, a_closedWith, a_stampOf) → sy_D (nu, st, un, ua) (f_active, f_epoch, a_nodeUp, a_journalUp, a_masterUp, a_touch, a_log, a_many, a_promise, a_base, a_stamp, a_units, a_unit, a_sort, a_placeOf, a_client, a_rowLength, a_row, a_closedWith, a_stampOf) → (∀ v', sy_L (mu, ju, ac, ep, to, pr, ba, le, lg) v' → sy_D (nu, st, un', ua') v' → post (nI r) v') → ∀ n, m + 1 < n → wY_pass_38 post (nI N) n (nI done) (if done < N then 1 else 0) f_active f_epoch a_nodeUp a_journalUp a_masterUp a_touch a_log a_many a_promise a_base a_stamp a_units a_unit a_sort a_placeOf a_client a_rowLength a_row a_closedWith a_stampOf) := by
  intro m
  induction m with
  | zero =>
    intro done un ua hd hu
    refine ⟨done, un, ua, hu, ?_, ?_⟩
    · intro post f_active f_epoch a_dataNodeDown a_journalDown a_masterDown a_inTouch a_promise a_base a_logLength a_logEpoch a_logKind a_logA a_logB a_logC a_inodeState a_inodePlace a_inodeClient a_closeUnits a_rowLength a_rowBlock a_blockStamp a_replicaHeld a_replicaStamp a_unitCount a_unitValue h hL hD hp n hn
      obtain ⟨n, rfl⟩ : ∃ n', n = n' + 1 := ⟨n - 1, by omega⟩
      have e : done = N := by omega
      subst e
      exact br_t lb_t (hp _ h hL hD)
    · intro post f_active f_epoch a_nodeUp a_journalUp a_masterUp a_touch a_log a_many a_promise a_base a_stamp a_units a_unit a_sort a_placeOf a_client a_rowLength a_row a_closedWith a_stampOf h hL hD hp n hn
      obtain ⟨n, rfl⟩ : ∃ n', n = n' + 1 := ⟨n - 1, by omega⟩
      rw [if_neg (by omega)]
      exact br_t rfl (hp _ hL hD)
  | succ m ih =>
    intro done un ua hd hu
    have hb : rd_bd (nu, st, un, ua) := ⟨hst, hu⟩
    by_cases hex : ∃ b, b < 16 ∧ rd_pg T nu st un b
    · obtain ⟨b, ⟨hb16, hpg⟩, hbl⟩ := pk_least (fun b => b < 16 ∧ rd_pg T nu st un b) hex
      obtain ⟨ho, hxd⟩ := hpg
      obtain ⟨d, ⟨hd5, hpd⟩, hdl⟩ := pk_least (fun d => d < 5 ∧ rd_pd (rd_g nu st b (qt_sp T b)) un b d) hxd
      have hle : rd_lo (rd_g nu st b (qt_sp T b)) d ≤ d := by rcases rd_loP (f := rd_g nu st b (qt_sp T b)) (n := d) with y | y <;> omega
      have hu1 := hu (16 * (rd_lo (rd_g nu st b (qt_sp T b)) d - 1) + b) (by omega)
      have hpd2 := hpd.2.2
      obtain ⟨r, un', ua', g0, gX, gY⟩ := ih (done + 1) (qt_u un (16 * d + b) (un (16 * d + b) + 1)) (upd ua (8 * (16 * d + b) + un (16 * d + b)) (ua (8 * (16 * (rd_lo (rd_g nu st b (qt_sp T b)) d - 1) + b) + un (16 * d + b)))) (by omega) (by
        intro c hc
        by_cases z : c = 16 * d + b
        · subst z; rw [qt_us]; omega
        · rw [qt_un z]; exact hu c hc)
      have same : ∀ b' d', b' < 16 → d' < 5 → qt_ol T b' → (∀ e, e < b' → ¬ rd_pg T nu st un e) → rd_pd (rd_g nu st b' (qt_sp T b')) un b' d' → (∀ e, e < d' → ¬ rd_pd (rd_g nu st b' (qt_sp T b')) un b' e) → b' = b ∧ d' = d := by
        intro b' d' h1 h2 h3 h4 h5 h6
        have e : b' = b := by
          by_cases l1 : b' < b
          · exact absurd ⟨h1, h3, d', h2, h5⟩ (hbl b' l1)
          · by_cases l2 : b < b'
            · exact absurd ⟨ho, d, hd5, hpd⟩ (h4 b l2)
            · omega
        subst e
        refine ⟨rfl, ?_⟩
        by_cases l1 : d' < d
        · exact absurd ⟨h2, h5⟩ (hdl d' l1)
        · by_cases l2 : d < d'
          · exact absurd hpd (h6 d l2)
          · omega
      refine ⟨r, un', ua', g0, ?_, ?_⟩
      · intro post f_active f_epoch a_dataNodeDown a_journalDown a_masterDown a_inTouch a_promise a_base a_logLength a_logEpoch a_logKind a_logA a_logB a_logC a_inodeState a_inodePlace a_inodeClient a_closeUnits a_rowLength a_rowBlock a_blockStamp a_replicaHeld a_replicaStamp a_unitCount a_unitValue h hL hD hp n hn
        obtain ⟨n, rfl⟩ : ∃ n', n = n' + 1 := ⟨n - 1, by omega⟩
        refine br_f (lb_f (by omega) (by omega)) (xm_passOne (u := (f_active, f_epoch, a_dataNodeDown, a_journalDown, a_masterDown, a_inTouch, a_promise, a_base, a_logLength, a_logEpoch, a_logKind, a_logA, a_logB, a_logC, a_inodeState, a_inodePlace, a_inodeClient, a_closeUnits, a_rowLength, a_rowBlock, a_blockStamp, a_replicaHeld, a_replicaStamp, a_unitCount, a_unitValue)) h hI hL hD hb (fun z => absurd ⟨ho, d, hd5, hpd⟩ (z b hb16)) (fun b' d' h1 h2 h3 h4 h5 h6 => ?_))
        obtain ⟨rfl, rfl⟩ := same b' d' h1 h2 h3 h4 h5 h6
        rintro ⟨f_active, f_epoch, a_dataNodeDown, a_journalDown, a_masterDown, a_inTouch, a_promise, a_base, a_logLength, a_logEpoch, a_logKind, a_logA, a_logB, a_logC, a_inodeState, a_inodePlace, a_inodeClient, a_closeUnits, a_rowLength, a_rowBlock, a_blockStamp, a_replicaHeld, a_replicaStamp, a_unitCount, a_unitValue⟩ k1 k2 k3
        exact br_f bo_1 (nm_r (nI_1 done) (gX post _ _ _ _ _ _ _ _ _ _ _ _ _ _ _ _ _ _ _ _ _ _ _ _ _ k1 k2 k3 hp n (by omega)))
      · intro post f_active f_epoch a_nodeUp a_journalUp a_masterUp a_touch a_log a_many a_promise a_base a_stamp a_units a_unit a_sort a_placeOf a_client a_rowLength a_row a_closedWith a_stampOf h hL hD hp n hn
        obtain ⟨n, rfl⟩ : ∃ n', n = n' + 1 := ⟨n - 1, by omega⟩
        rw [if_pos (by omega)]
        refine br_f bo_1 (ym_passOne (v := (f_active, f_epoch, a_nodeUp, a_journalUp, a_masterUp, a_touch, a_log, a_many, a_promise, a_base, a_stamp, a_units, a_unit, a_sort, a_placeOf, a_client, a_rowLength, a_row, a_closedWith, a_stampOf)) h hI hL hD hb (fun z => absurd ⟨ho, d, hd5, hpd⟩ (z b hb16)) (fun b' d' h1 h2 h3 h4 h5 h6 => ?_))
        obtain ⟨rfl, rfl⟩ := same b' d' h1 h2 h3 h4 h5 h6
        rintro ⟨f_active, f_epoch, a_nodeUp, a_journalUp, a_masterUp, a_touch, a_log, a_many, a_promise, a_base, a_stamp, a_units, a_unit, a_sort, a_placeOf, a_client, a_rowLength, a_row, a_closedWith, a_stampOf⟩ k1 k2 k3
        have K := gY post _ _ _ _ _ _ _ _ _ _ _ _ _ _ _ _ _ _ _ _ k1 k2 k3 hp n (by omega)
        refine br_f bo_1 (nm_r (nI_1 done) (br_f bo_1 (cd_if (nI_leI (by omega) (by omega)) (fun z => ?_) (fun z => ?_))))
        · rw [if_neg (by omega)] at K; exact K
        · rw [if_pos (by omega)] at K; exact K
    · refine ⟨done, un, ua, hu, ?_, ?_⟩
      · intro post f_active f_epoch a_dataNodeDown a_journalDown a_masterDown a_inTouch a_promise a_base a_logLength a_logEpoch a_logKind a_logA a_logB a_logC a_inodeState a_inodePlace a_inodeClient a_closeUnits a_rowLength a_rowBlock a_blockStamp a_replicaHeld a_replicaStamp a_unitCount a_unitValue h hL hD hp n hn
        obtain ⟨n, rfl⟩ : ∃ n', n = n' + 1 := ⟨n - 1, by omega⟩
        exact br_f (lb_f (by omega) (by omega)) (xm_passOne (u := (f_active, f_epoch, a_dataNodeDown, a_journalDown, a_masterDown, a_inTouch, a_promise, a_base, a_logLength, a_logEpoch, a_logKind, a_logA, a_logB, a_logC, a_inodeState, a_inodePlace, a_inodeClient, a_closeUnits, a_rowLength, a_rowBlock, a_blockStamp, a_replicaHeld, a_replicaStamp, a_unitCount, a_unitValue)) h hI hL hD hb (fun _ => br_t rfl (hp _ h hL hD)) (fun b' d' h1 h2 h3 h4 h5 h6 => absurd ⟨b', h1, h3, d', h2, h5⟩ hex))
      · intro post f_active f_epoch a_nodeUp a_journalUp a_masterUp a_touch a_log a_many a_promise a_base a_stamp a_units a_unit a_sort a_placeOf a_client a_rowLength a_row a_closedWith a_stampOf h hL hD hp n hn
        obtain ⟨n, rfl⟩ : ∃ n', n = n' + 1 := ⟨n - 1, by omega⟩
        obtain ⟨n, rfl⟩ : ∃ n', n = n' + 1 := ⟨n - 1, by omega⟩
        rw [if_pos (by omega)]
        exact br_f bo_1 (ym_passOne (v := (f_active, f_epoch, a_nodeUp, a_journalUp, a_masterUp, a_touch, a_log, a_many, a_promise, a_base, a_stamp, a_units, a_unit, a_sort, a_placeOf, a_client, a_rowLength, a_row, a_closedWith, a_stampOf)) h hI hL hD hb (fun _ => br_t rfl (br_t rfl (br_t rfl (hp _ hL hD)))) (fun b' d' h1 h2 h3 h4 h5 h6 => absurd ⟨b', h1, h3, d', h2, h5⟩ hex))
theorem i_vc_pass {k : Nat} {u : SX} {v : SY} (I : i_Rel k u v) (hk : k + 4 ≤ 2048) (v1 : Int32) : wpX_pass (fun r u' => wpY_pass (fun r' v' => r' = r ∧ i_Rel (k + 4) u' v') v v1) u v1 := by
  have I' := i_up I
  obtain ⟨T, ⟨mu, ju, ac, ep, to, pr, ba, le, lg⟩, ⟨nu, st, un, ua⟩, h1, h2, h3, h4, h5, h6, h7, h8⟩ := I
  have hb := rl_bd h7 (by omega) h8
  have i5 := h7.2.2.2.2.1
  generalize hR : i_Rel (k + 4) = R at I'
  obtain ⟨f_active, f_epoch, a_dataNodeDown, a_journalDown, a_masterDown, a_inTouch, a_promise, a_base, a_logLength, a_logEpoch, a_logKind, a_logA, a_logB, a_logC, a_inodeState, a_inodePlace, a_inodeClient, a_closeUnits, a_rowLength, a_rowBlock, a_blockStamp, a_replicaHeld, a_replicaStamp, a_unitCount, a_unitValue⟩ := u
  obtain ⟨g_active, g_epoch, a_nodeUp, a_journalUp, a_masterUp, a_touch, a_log, a_many, b_promise, b_base, a_stamp, a_units, a_unit, a_sort, a_placeOf, a_client, b_rowLength, a_row, a_closedWith, a_stampOf⟩ := v
  refine cd_if (xm_act h2.1 h7.2.1) (fun za => ?_) (fun za => ?_)
  · exact br_f (fun z => by have := (ym_act h4.1 h7.2.1).mp z; omega) ⟨rfl, I'⟩
  · have ya : 0 ≤ g_active := (ym_act h4.1 h7.2.1).mpr (by omega)
    refine cd_if Iff.rfl (fun z => br_t ya (br_t z ⟨rfl, I'⟩)) (fun z => cd_if Iff.rfl (fun y => ?_) (fun y => br_t ya (br_f z (br_f y ⟨rfl, I'⟩))))
    obtain ⟨N, hN, rfl⟩ := nI_of z
    have hN32 : N ≤ 32 := (nI_leI (b := 32) hN (by decide)).mp y
    obtain ⟨r, un', ua', g0, gX, gY⟩ := rl_pass (mu := mu) (ju := ju) (ac := ac) (ep := ep) (to := to) (pr := pr) (ba := ba) (le := le) (lg := lg) (nu := nu) (st := st) h6 hN32 hb.1 N 0 un ua (by omega) hb.2
    refine ⟨N + 1, gX _ _ _ _ _ _ _ _ _ _ _ _ _ _ _ _ _ _ _ _ _ _ _ _ _ _ h1 h2 h3 (fun u' k1 k2 k3 => ?_) (N + 1) (by omega)⟩
    refine br_t ya (br_f z (br_t y (ym_tell h4 h5 (fun j hj => ⟨(i5 j hj).1, (i5 j hj).2.2.2⟩) ?_)))
    rintro ⟨f_active, f_epoch, a_nodeUp, a_journalUp, a_masterUp, a_touch, a_log, a_many, a_promise, a_base, a_stamp, a_units, a_unit, a_sort, a_placeOf, a_client, a_rowLength, a_row, a_closedWith, a_stampOf⟩ gT gL gD
    rw [← (h7.2.2.2.2.2 (by omega)).2.2] at gT
    have K := gY (fun r' v' => r' = nI r ∧ R u' v') _ _ _ _ _ _ _ _ _ _ _ _ _ _ _ _ _ _ _ _ gT gL gD (fun v' m1 m2 => ⟨rfl, by rw [← hR]; exact ⟨T, _, _, k1, k2, k3, m1, m2, h6, lj_ivK (by omega) h7, ⟨h8.1, g0⟩⟩⟩) (N + 2) (by omega)
    refine cd_if (nI_leI (b := 0) hN (by decide)) (fun w => ⟨N + 2, ?_⟩) (fun w => ⟨N + 2, ?_⟩)
    · rw [if_neg (by omega)] at K; exact K
    · rw [if_pos (by omega)] at K; exact K
end
section
/-! tend -/
theorem qt_uu {f : Nat → Nat} {k x y : Nat} : qt_u (qt_u f k x) k y = qt_u f k y := by
  funext j
  by_cases z : j = k
  · subst z; rw [qt_us, qt_us]
  · rw [qt_un z, qt_un z, qt_un z]
section
variable {T : qt_T} {mu ju : Nat → Bool} {ac ep : Nat} {to : Nat → Bool} {pr ba le : Nat → Nat} {lg : Nat → Nat → qt_R} {nu : Nat → Bool} {st un : Nat → Nat} {ua : Nat → Int32}
theorem xm_putEmpty {u : SX} (h : sx_T T u) (hL : sx_L (mu, ju, ac, ep, to, pr, ba, le, lg) u) (hD : sx_D (nu, st, un, ua) u) {post : SX → Prop} {d b s : Nat} (hd : d < 5) (hb : b < 16) (hp : ∀ u', sx_T T u' → sx_L (mu, ju, ac, ep, to, pr, ba, le, lg) u' → sx_D (nu, qt_u st (16 * d + b) (s + 1), qt_u un (16 * d + b) 0, ua) u' → post u') : wpX_putEmptyReplica post u (nI d) (nI b) (nI s) := by
  obtain ⟨f_active, f_epoch, a_dataNodeDown, a_journalDown, a_masterDown, a_inTouch, a_promise, a_base, a_logLength, a_logEpoch, a_logKind, a_logA, a_logB, a_logC, a_inodeState, a_inodePlace, a_inodeClient, a_closeUnits, a_rowLength, a_rowBlock, a_blockStamp, a_replicaHeld, a_replicaStamp, a_unitCount, a_unitValue⟩ := u
  obtain ⟨l1, l2, l3, l4, l5, l6, l7, l8, l9⟩ := hL
  obtain ⟨d1, d2, d3, d4, d5⟩ := hD
  have h' : qt_ag True T a_inodeState a_inodePlace a_inodeClient a_closeUnits a_rowLength a_rowBlock a_blockStamp := h
  have hc : 16 * d + b < 80 := by omega
  have hv := vp_in_nI hc (by decide : 80 < 2 ^ 31)
  have hcc : (nI (16 * d + b)).toNatClampNeg = 16 * d + b := nI_clamp (by omega)
  refine nm_r (mu_r d 16 b) ⟨hv, nm_e ⟨hv, nm_e ⟨hv, nm_e ?_⟩⟩⟩
  rw [hcc]
  refine hp _ h' ⟨l1, l2, l3, l4, l5, l6, l7, l8, l9⟩ ⟨d1, ?_, ?_, ?_, d5⟩
  · intro j hj
    by_cases z : j = 16 * d + b
    · subst z; rw [pk_us, qt_us, if_neg (by omega)]; rfl
    · rw [pk_un z, qt_un z]; exact d2 j hj
  · intro j hj
    by_cases z : j = 16 * d + b
    · subst z; intro _; rw [pk_us, qt_us]; rfl
    · rw [pk_un z, qt_un z]; exact d3 j hj
  · intro j hj
    by_cases z : j = 16 * d + b
    · subst z; rw [pk_us, qt_us]; rfl
    · rw [pk_un z, qt_un z]; exact d4 j hj
/-- block b may be copied -/
def rd_cpb (T : qt_T) (nu : Nat → Bool) (st : Nat → Nat) (b : Nat) : Prop := qt_in (qt_rl T) (qt_ro T) b ∧ ¬ qt_ol T b ∧ 0 < rd_cn (rd_g nu st b (qt_sp T b)) 5 ∧ rd_cn (rd_g nu st b (qt_sp T b)) 5 < 3 ∧ rd_il nu st (fun x => !rd_g nu st b (qt_sp T b) x) 5 ≠ 0
def rd_cpD (D : rd_D) (b m t : Nat) : rd_D := match D with | (nu, st, un, ua) => (nu, qt_u st (16 * t + b) (st (16 * m + b)), qt_u un (16 * t + b) (un (16 * m + b)), rd_cp ua (16 * t + b) (16 * m + b) (un (16 * m + b)))
theorem xm_copyFirst {u : SX} (h : sx_T T u) (hI : qt_iv T) (hL : sx_L (mu, ju, ac, ep, to, pr, ba, le, lg) u) (hD : sx_D (nu, st, un, ua) u) (hb : rd_bd (nu, st, un, ua)) {post : SX → Prop} {b m t : Nat} (hb16 : b < 16) (hm : ls_f (fun d => rd_g nu st b (qt_sp T b) d = true) 5 m) (hm5 : m < 5) (ht5 : t < 5) (hp : ∀ u', sx_T T u' → sx_L (mu, ju, ac, ep, to, pr, ba, le, lg) u' → sx_D (rd_cpD (nu, st, un, ua) b m t) u' → post u') : wpX_copyFirstReplica post u (nI b) (nI t) := by
  obtain ⟨f_active, f_epoch, a_dataNodeDown, a_journalDown, a_masterDown, a_inTouch, a_promise, a_base, a_logLength, a_logEpoch, a_logKind, a_logA, a_logB, a_logC, a_inodeState, a_inodePlace, a_inodeClient, a_closeUnits, a_rowLength, a_rowBlock, a_blockStamp, a_replicaHeld, a_replicaStamp, a_unitCount, a_unitValue⟩ := u
  unfold wpX_copyFirstReplica
  obtain ⟨g1, g2, g3⟩ := rd_gI.mp (hm.2.2 hm5)
  have hc : 16 * m + b < 80 := by omega
  have hc2 : 16 * t + b < 80 := by omega
  have hu := hb.2 _ hc
  have hv := vp_in_nI hc (by decide : 80 < 2 ^ 31)
  have hcc : (nI (16 * m + b)).toNatClampNeg = 16 * m + b := nI_clamp (by omega)
  have hst0 : st (16 * m + b) ≠ 0 := by omega
  refine xm_firstGoodNode (u := (f_active, f_epoch, a_dataNodeDown, a_journalDown, a_masterDown, a_inTouch, a_promise, a_base, a_logLength, a_logEpoch, a_logKind, a_logA, a_logB, a_logC, a_inodeState, a_inodePlace, a_inodeClient, a_closeUnits, a_rowLength, a_rowBlock, a_blockStamp, a_replicaHeld, a_replicaStamp, a_unitCount, a_unitValue)) h hI hD hb hb16 hm ?_
  rw [ls_vS hm5]
  refine br_f (ix_m1 (by omega)) (nm_r (mu_r m 16 b) (nm_r (mu_r t 16 b) ⟨hv, nm_r (e' := nI (un (16 * m + b))) (by rw [hcc]; exact hD.2.2.2.1 _ hc) ⟨hv, ?_⟩⟩))
  rw [hcc, hD.2.2.1 _ hc hst0]
  refine xm_putEmpty (u := (f_active, f_epoch, a_dataNodeDown, a_journalDown, a_masterDown, a_inTouch, a_promise, a_base, a_logLength, a_logEpoch, a_logKind, a_logA, a_logB, a_logC, a_inodeState, a_inodePlace, a_inodeClient, a_closeUnits, a_rowLength, a_rowBlock, a_blockStamp, a_replicaHeld, a_replicaStamp, a_unitCount, a_unitValue)) h hL hD ht5 hb16 ?_
  have es : st (16 * m + b) - 1 + 1 = st (16 * m + b) := by omega
  rw [es]
  have key : ∀ k n j, j + k = un (16 * m + b) → k < n → ∀ f_active f_epoch a_dataNodeDown a_journalDown a_masterDown a_inTouch a_promise a_base a_logLength a_logEpoch a_logKind a_logA a_logB a_logC a_inodeState a_inodePlace a_inodeClient a_closeUnits a_rowLength a_rowBlock a_blockStamp a_replicaHeld a_replicaStamp a_unitCount a_unitValue, sx_T T (f_active, f_epoch, a_dataNodeDown, a_journalDown, a_masterDown, a_inTouch, a_promise, a_base, a_logLength, a_logEpoch, a_logKind, a_logA, a_logB, a_logC, a_inodeState, a_inodePlace, a_inodeClient, a_closeUnits, a_rowLength, a_rowBlock, a_blockStamp, a_replicaHeld, a_replicaStamp, a_unitCount, a_unitValue) → sx_L (mu, ju, ac, ep, to, pr, ba, le, lg) (f_active, f_epoch, a_dataNodeDown, a_journalDown, a_masterDown, a_inTouch, a_promise, a_base, a_logLength, a_logEpoch, a_logKind, a_logA, a_logB, a_logC, a_inodeState, a_inodePlace, a_inodeClient, a_closeUnits, a_rowLength, a_rowBlock, a_blockStamp, a_replicaHeld, a_replicaStamp, a_unitCount, a_unitValue) → sx_D (nu, qt_u st (16 * t + b) (st (16 * m + b)), qt_u un (16 * t + b) j, rd_cp ua (16 * t + b) (16 * m + b) j) (f_active, f_epoch, a_dataNodeDown, a_journalDown, a_masterDown, a_inTouch, a_promise, a_base, a_logLength, a_logEpoch, a_logKind, a_logA, a_logB, a_logC, a_inodeState, a_inodePlace, a_inodeClient, a_closeUnits, a_rowLength, a_rowBlock, a_blockStamp, a_replicaHeld, a_replicaStamp, a_unitCount, a_unitValue) → wX_copyFirstReplica_53 post (nI (16 * m + b)) (nI (16 * t + b)) (nI (un (16 * m + b))) n (nI j) f_active f_epoch a_dataNodeDown a_journalDown a_masterDown a_inTouch a_promise a_base a_logLength a_logEpoch a_logKind a_logA a_logB a_logC a_inodeState a_inodePlace a_inodeClient a_closeUnits a_rowLength a_rowBlock a_blockStamp a_replicaHeld a_replicaStamp a_unitCount a_unitValue := by
    intro k
    induction k with
    | zero =>
      intro n j hj hn f_active f_epoch a_dataNodeDown a_journalDown a_masterDown a_inTouch a_promise a_base a_logLength a_logEpoch a_logKind a_logA a_logB a_logC a_inodeState a_inodePlace a_inodeClient a_closeUnits a_rowLength a_rowBlock a_blockStamp a_replicaHeld a_replicaStamp a_unitCount a_unitValue h hL hD
      obtain ⟨n, rfl⟩ : ∃ n', n = n' + 1 := ⟨n - 1, by omega⟩
      have e : j = un (16 * m + b) := by omega
      subst e
      exact br_t lb_t (hp _ h hL hD)
    | succ k ih =>
      intro n j hj hn f_active f_epoch a_dataNodeDown a_journalDown a_masterDown a_inTouch a_promise a_base a_logLength a_logEpoch a_logKind a_logA a_logB a_logC a_inodeState a_inodePlace a_inodeClient a_closeUnits a_rowLength a_rowBlock a_blockStamp a_replicaHeld a_replicaStamp a_unitCount a_unitValue h hL hD
      obtain ⟨n, rfl⟩ : ∃ n', n = n' + 1 := ⟨n - 1, by omega⟩
      refine br_f (lb_f (by omega) (by omega)) ?_
      rw [show nI (16 * m + b) * 8 + nI j = nI (8 * (16 * m + b) + j) from mu_r _ 8 _]
      refine ⟨vp_in_nI (by omega) (by decide), xm_putUnit (u := (f_active, f_epoch, a_dataNodeDown, a_journalDown, a_masterDown, a_inTouch, a_promise, a_base, a_logLength, a_logEpoch, a_logKind, a_logA, a_logB, a_logC, a_inodeState, a_inodePlace, a_inodeClient, a_closeUnits, a_rowLength, a_rowBlock, a_blockStamp, a_replicaHeld, a_replicaStamp, a_unitCount, a_unitValue)) h hL hD hc2 (by rw [qt_us]; omega) ?_⟩
      rintro ⟨f_active, f_epoch, a_dataNodeDown, a_journalDown, a_masterDown, a_inTouch, a_promise, a_base, a_logLength, a_logEpoch, a_logKind, a_logA, a_logB, a_logC, a_inodeState, a_inodePlace, a_inodeClient, a_closeUnits, a_rowLength, a_rowBlock, a_blockStamp, a_replicaHeld, a_replicaStamp, a_unitCount, a_unitValue⟩ k1 k2 k3
      rw [qt_us, qt_uu, nI_clamp (by omega), hD.2.2.2.2] at k3
      exact nm_r (nI_1 j) (ih n (j + 1) (by omega) (by omega) _ _ _ _ _ _ _ _ _ _ _ _ _ _ _ _ _ _ _ _ _ _ _ _ _ k1 k2 k3)
  rintro ⟨f_active, f_epoch, a_dataNodeDown, a_journalDown, a_masterDown, a_inTouch, a_promise, a_base, a_logLength, a_logEpoch, a_logKind, a_logA, a_logB, a_logC, a_inodeState, a_inodePlace, a_inodeClient, a_closeUnits, a_rowLength, a_rowBlock, a_blockStamp, a_replicaHeld, a_replicaStamp, a_unitCount, a_unitValue⟩ k1 k2 k3
  exact ⟨un (16 * m + b) + 1, key (un (16 * m + b)) _ 0 (by omega) (by omega) _ _ _ _ _ _ _ _ _ _ _ _ _ _ _ _ _ _ _ _ _ _ _ _ _ k1 k2 k3⟩
theorem xm_replicate {u : SX} (h : sx_T T u) (hI : qt_iv T) (hL : sx_L (mu, ju, ac, ep, to, pr, ba, le, lg) u) (hD : sx_D (nu, st, un, ua) u) (hb : rd_bd (nu, st, un, ua)) {post : Int32 → SX → Prop} {b m t : Nat} (hbm : ls_f (rd_cpb T nu st) 16 b) (hm : b < 16 → ls_f (fun d => rd_g nu st b (qt_sp T b) d = true) 5 m ∧ m < 5 ∧ t < 5 ∧ rd_il nu st (fun x => !rd_g nu st b (qt_sp T b) x) 5 = t + 1)
    (h0 : b = 16 → post (-1) u) (h1 : b < 16 → ∀ u', sx_T T u' → sx_L (mu, ju, ac, ep, to, pr, ba, le, lg) u' → sx_D (rd_cpD (nu, st, un, ua) b m t) u' → post (nI b) u') : wpX_replicateOneBlock post u := by
  obtain ⟨f_active, f_epoch, a_dataNodeDown, a_journalDown, a_masterDown, a_inTouch, a_promise, a_base, a_logLength, a_logEpoch, a_logKind, a_logA, a_logB, a_logC, a_inodeState, a_inodePlace, a_inodeClient, a_closeUnits, a_rowLength, a_rowBlock, a_blockStamp, a_replicaHeld, a_replicaStamp, a_unitCount, a_unitValue⟩ := u
  refine ⟨17, lq_s (fun n d => wX_replicateOneBlock_2 post f_active f_epoch a_dataNodeDown a_journalDown a_masterDown a_inTouch a_promise a_base a_logLength a_logEpoch a_logKind a_logA a_logB a_logC a_inodeState a_inodePlace a_inodeClient a_closeUnits a_rowLength a_rowBlock a_blockStamp a_replicaHeld a_replicaStamp a_unitCount a_unitValue n (nI d)) 16 b hbm.1 (fun n e => ?_) (fun n hlt => ?_) (fun n d hd H => ?_) 17 0 (by omega) (by omega)⟩
  · exact br_t lb_t (h0 e)
  · obtain ⟨c1, c2, c3, c4, c5⟩ := hbm.2.2 hlt
    obtain ⟨m1, m2, m3, m4⟩ := hm hlt
    refine br_f (lb_f hlt) (xm_isInRow (u := (f_active, f_epoch, a_dataNodeDown, a_journalDown, a_masterDown, a_inTouch, a_promise, a_base, a_logLength, a_logEpoch, a_logKind, a_logA, a_logB, a_logC, a_inodeState, a_inodePlace, a_inodeClient, a_closeUnits, a_rowLength, a_rowBlock, a_blockStamp, a_replicaHeld, a_replicaStamp, a_unitCount, a_unitValue)) h hI hlt (fun _ => br_f bo_1 (xm_isLastOfOpenFile (u := (f_active, f_epoch, a_dataNodeDown, a_journalDown, a_masterDown, a_inTouch, a_promise, a_base, a_logLength, a_logEpoch, a_logKind, a_logA, a_logB, a_logC, a_inodeState, a_inodePlace, a_inodeClient, a_closeUnits, a_rowLength, a_rowBlock, a_blockStamp, a_replicaHeld, a_replicaStamp, a_unitCount, a_unitValue)) h hI hlt (fun z => absurd z c2) (fun _ => br_t rfl (xm_hasTooFewGood (u := (f_active, f_epoch, a_dataNodeDown, a_journalDown, a_masterDown, a_inTouch, a_promise, a_base, a_logLength, a_logEpoch, a_logKind, a_logA, a_logB, a_logC, a_inodeState, a_inodePlace, a_inodeClient, a_closeUnits, a_rowLength, a_rowBlock, a_blockStamp, a_replicaHeld, a_replicaStamp, a_unitCount, a_unitValue)) h hI hD hb hlt (fun _ _ => br_f bo_1 (xm_goodNodes (u := (f_active, f_epoch, a_dataNodeDown, a_journalDown, a_masterDown, a_inTouch, a_promise, a_base, a_logLength, a_logEpoch, a_logKind, a_logA, a_logB, a_logC, a_inodeState, a_inodePlace, a_inodeClient, a_closeUnits, a_rowLength, a_rowBlock, a_blockStamp, a_replicaHeld, a_replicaStamp, a_unitCount, a_unitValue)) h hI hD hb hlt (xm_leastLoadedNode (u := (f_active, f_epoch, a_dataNodeDown, a_journalDown, a_masterDown, a_inTouch, a_promise, a_base, a_logLength, a_logEpoch, a_logKind, a_logA, a_logB, a_logC, a_inodeState, a_inodePlace, a_inodeClient, a_closeUnits, a_rowLength, a_rowBlock, a_blockStamp, a_replicaHeld, a_replicaStamp, a_unitCount, a_unitValue)) hD ?_))) (fun z => absurd ⟨c3, c4⟩ z))))) (fun z => absurd c1 z))
    rw [m4, qt_ms]
    refine br_f (ix_m1 (by omega)) (xm_copyFirst (u := (f_active, f_epoch, a_dataNodeDown, a_journalDown, a_masterDown, a_inTouch, a_promise, a_base, a_logLength, a_logEpoch, a_logKind, a_logA, a_logB, a_logC, a_inodeState, a_inodePlace, a_inodeClient, a_closeUnits, a_rowLength, a_rowBlock, a_blockStamp, a_replicaHeld, a_replicaStamp, a_unitCount, a_unitValue)) h hI hL hD hb hlt m1 m2 m3 ?_)
    rintro ⟨f_active, f_epoch, a_dataNodeDown, a_journalDown, a_masterDown, a_inTouch, a_promise, a_base, a_logLength, a_logEpoch, a_logKind, a_logA, a_logB, a_logC, a_inodeState, a_inodePlace, a_inodeClient, a_closeUnits, a_rowLength, a_rowBlock, a_blockStamp, a_replicaHeld, a_replicaStamp, a_unitCount, a_unitValue⟩ k1 k2 k3
    exact h1 hlt _ k1 k2 k3
  · have hlt : d < 16 := by have := hbm.1; omega
    have z := hbm.2.1 d hd
    have hil : rd_il nu st (fun x => !rd_g nu st d (qt_sp T d) x) 5 ≤ 5 := by
      rcases rd_ilP (nu := nu) (st := st) (ok := fun x => !rd_g nu st d (qt_sp T d) x) (n := 5) with y | y <;> omega
    refine br_f (lb_f hlt) (xm_isInRow (u := (f_active, f_epoch, a_dataNodeDown, a_journalDown, a_masterDown, a_inTouch, a_promise, a_base, a_logLength, a_logEpoch, a_logKind, a_logA, a_logB, a_logC, a_inodeState, a_inodePlace, a_inodeClient, a_closeUnits, a_rowLength, a_rowBlock, a_blockStamp, a_replicaHeld, a_replicaStamp, a_unitCount, a_unitValue)) h hI hlt (fun c1 => br_f bo_1 (xm_isLastOfOpenFile (u := (f_active, f_epoch, a_dataNodeDown, a_journalDown, a_masterDown, a_inTouch, a_promise, a_base, a_logLength, a_logEpoch, a_logKind, a_logA, a_logB, a_logC, a_inodeState, a_inodePlace, a_inodeClient, a_closeUnits, a_rowLength, a_rowBlock, a_blockStamp, a_replicaHeld, a_replicaStamp, a_unitCount, a_unitValue)) h hI hlt (fun _ => br_f bo_1 (nm_r (nI_1 d) H)) (fun c2 => br_t rfl (xm_hasTooFewGood (u := (f_active, f_epoch, a_dataNodeDown, a_journalDown, a_masterDown, a_inTouch, a_promise, a_base, a_logLength, a_logEpoch, a_logKind, a_logA, a_logB, a_logC, a_inodeState, a_inodePlace, a_inodeClient, a_closeUnits, a_rowLength, a_rowBlock, a_blockStamp, a_replicaHeld, a_replicaStamp, a_unitCount, a_unitValue)) h hI hD hb hlt (fun c3 c4 => br_f bo_1 (xm_goodNodes (u := (f_active, f_epoch, a_dataNodeDown, a_journalDown, a_masterDown, a_inTouch, a_promise, a_base, a_logLength, a_logEpoch, a_logKind, a_logA, a_logB, a_logC, a_inodeState, a_inodePlace, a_inodeClient, a_closeUnits, a_rowLength, a_rowBlock, a_blockStamp, a_replicaHeld, a_replicaStamp, a_unitCount, a_unitValue)) h hI hD hb hlt (xm_leastLoadedNode (u := (f_active, f_epoch, a_dataNodeDown, a_journalDown, a_masterDown, a_inTouch, a_promise, a_base, a_logLength, a_logEpoch, a_logKind, a_logA, a_logB, a_logC, a_inodeState, a_inodePlace, a_inodeClient, a_closeUnits, a_rowLength, a_rowBlock, a_blockStamp, a_replicaHeld, a_replicaStamp, a_unitCount, a_unitValue)) hD ?_))) (fun _ => br_t rfl (nm_r (nI_1 d) H)))))) (fun _ => br_t rfl (nm_r (nI_1 d) H)))
    exact cd_if (qt_m0E (by omega)) (fun _ => nm_r (nI_1 d) H) (fun c5 => absurd ⟨c1, c2, c3, c4, c5⟩ z)
theorem xm_isUseful {u : SX} (h : sx_T T u) (hI : qt_iv T) (hD : sx_D (nu, st, un, ua) u) (hb : rd_bd (nu, st, un, ua)) {post : Int32 → Prop} {d b : Nat} (hd : d < 5) (hb16 : b < 16) (h1 : qt_in (qt_rl T) (qt_ro T) b → rd_g nu st b (qt_sp T b) d = true → post 1) (h0 : ¬ (qt_in (qt_rl T) (qt_ro T) b ∧ rd_g nu st b (qt_sp T b) d = true) → post 0) : wpX_isUseful post u (nI d) (nI b) := by
  obtain ⟨f_active, f_epoch, a_dataNodeDown, a_journalDown, a_masterDown, a_inTouch, a_promise, a_base, a_logLength, a_logEpoch, a_logKind, a_logA, a_logB, a_logC, a_inodeState, a_inodePlace, a_inodeClient, a_closeUnits, a_rowLength, a_rowBlock, a_blockStamp, a_replicaHeld, a_replicaStamp, a_unitCount, a_unitValue⟩ := u
  unfold wpX_isUseful
  exact xm_goodNodes (u := (f_active, f_epoch, a_dataNodeDown, a_journalDown, a_masterDown, a_inTouch, a_promise, a_base, a_logLength, a_logEpoch, a_logKind, a_logA, a_logB, a_logC, a_inodeState, a_inodePlace, a_inodeClient, a_closeUnits, a_rowLength, a_rowBlock, a_blockStamp, a_replicaHeld, a_replicaStamp, a_unitCount, a_unitValue)) h hI hD hb hb16 (xm_isInRow (u := (f_active, f_epoch, a_dataNodeDown, a_journalDown, a_masterDown, a_inTouch, a_promise, a_base, a_logLength, a_logEpoch, a_logKind, a_logA, a_logB, a_logC, a_inodeState, a_inodePlace, a_inodeClient, a_closeUnits, a_rowLength, a_rowBlock, a_blockStamp, a_replicaHeld, a_replicaStamp, a_unitCount, a_unitValue)) h hI hb16 (fun z => br_f bo_1 (xm_isIn hd (fun y => br_f bo_1 (h1 z y)) (fun y => br_t rfl (h0 (fun x => absurd (y.symm.trans x.2) (by decide)))))) (fun z => br_t rfl (h0 (fun x => z x.1))))
theorem xm_drop {u : SX} (h : sx_T T u) (hI : qt_iv T) (hL : sx_L (mu, ju, ac, ep, to, pr, ba, le, lg) u) (hD : sx_D (nu, st, un, ua) u) (hb : rd_bd (nu, st, un, ua)) {post : Int32 → SX → Prop} {d : Nat} (hd : d < 5) {keep : Nat → Bool} (hk : ∀ b, keep b = true ↔ qt_in (qt_rl T) (qt_ro T) b ∧ rd_g nu st b (qt_sp T b) d = true)
    (hp : ∀ u', sx_T T u' → sx_L (mu, ju, ac, ep, to, pr, ba, le, lg) u' → sx_D (nu, rd_dr keep d 16 st, un, ua) u' → post (nI (rd_cn (fun b => decide (st (16 * d + b) ≠ 0 ∧ keep b = false)) 16)) u') : wpX_dropUselessReplicas post u (nI d) := by
  obtain ⟨f_active, f_epoch, a_dataNodeDown, a_journalDown, a_masterDown, a_inTouch, a_promise, a_base, a_logLength, a_logEpoch, a_logKind, a_logA, a_logB, a_logC, a_inodeState, a_inodePlace, a_inodeClient, a_closeUnits, a_rowLength, a_rowBlock, a_blockStamp, a_replicaHeld, a_replicaStamp, a_unitCount, a_unitValue⟩ := u
  obtain ⟨l1, l2, l3, l4, l5, l6, l7, l8, l9⟩ := hL
  obtain ⟨d1, d2, d3, d4, d5⟩ := hD
  have h' : qt_ag True T a_inodeState a_inodePlace a_inodeClient a_closeUnits a_rowLength a_rowBlock a_blockStamp := h
  have hst3 : ∀ n c, c < 80 → rd_dr keep d n st c ≠ 0 → a_replicaStamp c = nI (rd_dr keep d n st c - 1) := by
    intro n c hc hz
    have e : rd_dr keep d n st c = st c := by
      unfold rd_dr at hz ⊢
      split
      · rename_i w; rw [if_pos w] at hz; exact absurd rfl hz
      · rfl
    rw [e] at hz ⊢
    exact d3 c hc hz
  have key : ∀ k n b, b + k = 16 → k < n → ∀ aH : Nat → Int32, (∀ c, c < 80 → aH c = if rd_dr keep d b st c = 0 then 0 else 1) → wX_dropUselessReplicas_4 post (nI d) f_active f_epoch n (nI (rd_cn (fun b => decide (st (16 * d + b) ≠ 0 ∧ keep b = false)) b)) (nI b) a_dataNodeDown a_journalDown a_masterDown a_inTouch a_promise a_base a_logLength a_logEpoch a_logKind a_logA a_logB a_logC a_inodeState a_inodePlace a_inodeClient a_closeUnits a_rowLength a_rowBlock a_blockStamp aH a_replicaStamp a_unitCount a_unitValue := by
    intro k
    induction k with
    | zero =>
      intro n b hb' hn aH H
      obtain ⟨n, rfl⟩ : ∃ n', n = n' + 1 := ⟨n - 1, by omega⟩
      have e : b = 16 := by omega
      subst e
      exact br_t lb_t (hp _ h' ⟨l1, l2, l3, l4, l5, l6, l7, l8, l9⟩ ⟨d1, H, hst3 16, d4, d5⟩)
    | succ k ih =>
      intro n b hb' hn aH H
      obtain ⟨n, rfl⟩ : ∃ n', n = n' + 1 := ⟨n - 1, by omega⟩
      have hb16 : b < 16 := by omega
      have hc : 16 * d + b < 80 := by omega
      have hv := vp_in_nI hc (by decide : 80 < 2 ^ 31)
      have hcc : (nI (16 * d + b)).toNatClampNeg = 16 * d + b := nI_clamp (by omega)
      have ecol : ∀ e, e < 5 → rd_dr keep d b st (16 * e + b) = st (16 * e + b) := fun e _ => rd_drN hb16 (Nat.le_refl b)
      have ec : rd_dr keep d b st (16 * d + b) = st (16 * d + b) := ecol d hd
      have skip : ¬ (st (16 * d + b) ≠ 0 ∧ keep b = false) → wX_dropUselessReplicas_4 post (nI d) f_active f_epoch n (nI (rd_cn (fun b => decide (st (16 * d + b) ≠ 0 ∧ keep b = false)) b)) (nI (b + 1)) a_dataNodeDown a_journalDown a_masterDown a_inTouch a_promise a_base a_logLength a_logEpoch a_logKind a_logA a_logB a_logC a_inodeState a_inodePlace a_inodeClient a_closeUnits a_rowLength a_rowBlock a_blockStamp aH a_replicaStamp a_unitCount a_unitValue := by
        intro z
        have := ih n (b + 1) (by omega) (by omega) aH (fun c hc' => by
          have e : rd_dr keep d (b + 1) st c = rd_dr keep d b st c := by
            rw [rd_drS hb16]
            split
            · rename_i w
              rw [w.1, ec]
              by_cases y : st (16 * d + b) = 0
              · exact y.symm
              · exact absurd ⟨y, w.2⟩ z
            · rfl
          rw [e]; exact H c hc')
        rw [rd_cnF (f := fun b => decide (st (16 * d + b) ≠ 0 ∧ keep b = false)) (decide_eq_false z)] at this
        exact this
      have hbd : rd_bd (nu, rd_dr keep d b st, un, ua) := ⟨fun c hc => rd_drB (hb.1 c hc), hb.2⟩
      have hDb : sx_D (nu, rd_dr keep d b st, un, ua) (f_active, f_epoch, a_dataNodeDown, a_journalDown, a_masterDown, a_inTouch, a_promise, a_base, a_logLength, a_logEpoch, a_logKind, a_logA, a_logB, a_logC, a_inodeState, a_inodePlace, a_inodeClient, a_closeUnits, a_rowLength, a_rowBlock, a_blockStamp, aH, a_replicaStamp, a_unitCount, a_unitValue) := ⟨d1, H, hst3 b, d4, d5⟩
      refine br_f (lb_f hb16) (nm_r (mu_r d 16 b) ⟨hv, cd_if (xm_held H hc) (fun z => nm_r (nI_1 b) (skip (fun y => y.1 (by rw [← ec]; exact z)))) (fun z => ?_)⟩)
      rw [ec] at z
      have eg : rd_g nu (rd_dr keep d b st) b (qt_sp T b) d = rd_g nu st b (qt_sp T b) d := rd_gC ecol hd
      refine xm_isUseful (u := (f_active, f_epoch, a_dataNodeDown, a_journalDown, a_masterDown, a_inTouch, a_promise, a_base, a_logLength, a_logEpoch, a_logKind, a_logA, a_logB, a_logC, a_inodeState, a_inodePlace, a_inodeClient, a_closeUnits, a_rowLength, a_rowBlock, a_blockStamp, aH, a_replicaStamp, a_unitCount, a_unitValue)) h' hI hDb hbd hd hb16 (fun y1 y2 => br_f bo_1 (nm_r (nI_1 b) (skip (fun x => ?_)))) (fun y => br_t rfl ⟨hv, nm_e ?_⟩)
      · rw [eg] at y2
        rw [(hk b).mpr ⟨y1, y2⟩] at x
        exact absurd x.2 (by decide)
      · rw [eg] at y
        have kf : keep b = false := by
          cases hh : keep b with
          | false => rfl
          | true => exact absurd ((hk b).mp hh) y
        refine nm_r (rd_cnT (f := fun b => decide (st (16 * d + b) ≠ 0 ∧ keep b = false)) (decide_eq_true ⟨z, kf⟩)) (nm_r (nI_1 b) (ih n (b + 1) (by omega) (by omega) _ (fun c hc' => ?_)))
        rw [hcc, rd_drS hb16]
        by_cases w : c = 16 * d + b
        · subst w
          rw [pk_us, if_pos (c := 16 * d + b = 16 * d + b ∧ keep b = false) ⟨rfl, kf⟩]; rfl
        · rw [pk_un w, if_neg (c := c = 16 * d + b ∧ keep b = false) (fun q => w q.1)]; exact H c hc'
  refine ⟨17, key 16 17 0 (by omega) (by omega) _ (fun c hc => ?_)⟩
  rw [rd_dr0]; exact d2 c hc
end
end
section
/-! tend: the reference, and both -/
section
variable {T : qt_T} {mu ju : Nat → Bool} {ac ep : Nat} {to : Nat → Bool} {pr ba le : Nat → Nat} {lg : Nat → Nat → qt_R} {nu : Nat → Bool} {st un : Nat → Nat} {ua : Nat → Int32}
theorem ym_ones {post : Int32 → Prop} {f : Nat → Bool} (hp : post (nI (rd_cn f 5))) : wpY_ones post (nI (rd_mk f 5)) := by
  refine ⟨6, lq_f (fun n d s => wY_ones_4 post (nI (rd_mk f 5)) n s (nI d)) 5 (fun d => nI (rd_cn f d)) (fun n => br_t lb_t hp) (fun n d hd H => ?_) 6 0 (by omega) (by omega)⟩
  refine br_f (lb_f hd) (nm_r (e' := nI (rd_cn f (d + 1))) ?_ (nm_r (nI_1 d) H))
  rw [rd_bv f d hd, rd_cnS]
  cases f d with
  | true => exact nI_add _ 1
  | false => exact nI_add _ 0
theorem ym_copied {v : SY} (h : sy_T T v) (hI : qt_iv T) (hL : sy_L (mu, ju, ac, ep, to, pr, ba, le, lg) v) (hD : sy_D (nu, st, un, ua) v) (hb : rd_bd (nu, st, un, ua)) {post : Int32 → SY → Prop} {b m t : Nat} (hbm : ls_f (rd_cpb T nu st) 16 b) (hm : b < 16 → ls_f (fun d => rd_g nu st b (qt_sp T b) d = true) 5 m ∧ m < 5 ∧ t < 5 ∧ rd_il nu st (fun x => !rd_g nu st b (qt_sp T b) x) 5 = t + 1) (hmt : b < 16 → m ≠ t)
    (h0 : b = 16 → post (-1) v) (h1 : b < 16 → ∀ v', sy_L (mu, ju, ac, ep, to, pr, ba, le, lg) v' → sy_D (rd_cpD (nu, st, un, ua) b m t) v' → post (nI b) v') : wpY_copied post v := by
  obtain ⟨f_active, f_epoch, a_nodeUp, a_journalUp, a_masterUp, a_touch, a_log, a_many, a_promise, a_base, a_stamp, a_units, a_unit, a_sort, a_placeOf, a_client, a_rowLength, a_row, a_closedWith, a_stampOf⟩ := v
  have i0 : nI (rd_mk (fun _ => false) 5) = 0 := by rw [rd_mk0]; rfl
  have s45z : ∀ (J : Int32 → Prop) d, J (nI (d + 1)) → wY_copied_45 post J (nI d) 0 f_active f_epoch a_nodeUp a_journalUp a_masterUp a_touch a_log a_many a_promise a_base a_stamp a_units a_unit a_sort a_placeOf a_client a_rowLength a_row a_closedWith a_stampOf := by
    intro J d H
    have e1 : 31 &&& ((0 : Int32) ^^^ (-1)) = nI (rd_mk (fun _ => true) 5) := by decide +kernel
    have K : wpY_ones (fun r_25 => (wpY_idlest (fun r_26 => (((r_25 = 0 → (∀ x, x = nI d + 1 → (J x))) ∧ (¬ r_25 = 0 → (((2 < r_25 → (∀ x, x = nI d + 1 → (J x))) ∧ (¬ 2 < r_25 → (((0 ≤ r_26 → (wpY_first (fun r_52 => (∀ x6, x6 = (16 * r_52) + nI d → (∀ x7, x7 = (16 * r_26) + nI d → (vp_in x6 80 ∧ (vp_in x7 80 ∧ ∀ a_stamp_77, a_stamp_77 = upd a_stamp x7.toNatClampNeg (a_stamp x6.toNatClampNeg) → (vp_in x6 80 ∧ (vp_in x7 80 ∧ ∀ a_units_80, a_units_80 = upd a_units x7.toNatClampNeg (a_units x6.toNatClampNeg) → (∃ n135 : Nat, wY_copied_135 post (nI d) x6 x7 f_active f_epoch n135 0 a_nodeUp a_journalUp a_masterUp a_touch a_log a_many a_promise a_base a_stamp_77 a_units_80 a_unit a_sort a_placeOf a_client a_rowLength a_row a_closedWith a_stampOf)))))))) (f_active, f_epoch, a_nodeUp, a_journalUp, a_masterUp, a_touch, a_log, a_many, a_promise, a_base, a_stamp, a_units, a_unit, a_sort, a_placeOf, a_client, a_rowLength, a_row, a_closedWith, a_stampOf) (nI d))) ∧ (¬ 0 ≤ r_26 → (∀ x, x = nI d + 1 → (J x)))))))))))) (f_active, f_epoch, a_nodeUp, a_journalUp, a_masterUp, a_touch, a_log, a_many, a_promise, a_base, a_stamp, a_units, a_unit, a_sort, a_placeOf, a_client, a_rowLength, a_row, a_closedWith, a_stampOf) (31 &&& ((0 : Int32) ^^^ (-1))))) (nI (rd_mk (fun _ => false) 5)) := by
      refine ym_ones ?_
      rw [e1]
      exact ym_idlest (v := (f_active, f_epoch, a_nodeUp, a_journalUp, a_masterUp, a_touch, a_log, a_many, a_promise, a_base, a_stamp, a_units, a_unit, a_sort, a_placeOf, a_client, a_rowLength, a_row, a_closedWith, a_stampOf)) hD hb (br_t (by decide) (nm_r (nI_1 d) H))
    rw [i0] at K
    exact K
  have s45 : ∀ (J : Int32 → Prop) d, d < 16 → qt_in (qt_rl T) (qt_ro T) d → ¬ qt_ol T d → ¬ rd_cpb T nu st d → J (nI (d + 1)) → wY_copied_45 post J (nI d) (nI (rd_mk (rd_g nu st d (qt_sp T d)) 5)) f_active f_epoch a_nodeUp a_journalUp a_masterUp a_touch a_log a_many a_promise a_base a_stamp a_units a_unit a_sort a_placeOf a_client a_rowLength a_row a_closedWith a_stampOf := by
    intro J d hd c1 c2 z H
    have hil : rd_il nu st (fun x => !rd_g nu st d (qt_sp T d) x) 5 ≤ 5 := by
      rcases rd_ilP (nu := nu) (st := st) (ok := fun x => !rd_g nu st d (qt_sp T d) x) (n := 5) with y | y <;> omega
    have hcn := rd_cnL (rd_g nu st d (qt_sp T d)) 5
    unfold wY_copied_45
    refine ym_ones ?_
    rw [rd_co]
    refine ym_idlest (v := (f_active, f_epoch, a_nodeUp, a_journalUp, a_masterUp, a_touch, a_log, a_many, a_promise, a_base, a_stamp, a_units, a_unit, a_sort, a_placeOf, a_client, a_rowLength, a_row, a_closedWith, a_stampOf)) hD hb (cd_if (nI_eq (b := 0) (by omega) (by decide)) (fun c3 => nm_r (nI_1 d) H) (fun c3 => cd_if (nI_ltI (a := 2) (by decide) (by omega)) (fun c4 => nm_r (nI_1 d) H) (fun c4 => cd_if (qt_Nm (s := 0) (by omega) (by decide)) (fun c5 => absurd ⟨c1, c2, by omega, by omega, by omega⟩ z) (fun c5 => nm_r (nI_1 d) H))))
  refine ⟨17, lq_s (fun n d => wY_copied_2 post f_active f_epoch a_nodeUp a_journalUp a_masterUp a_touch a_log a_many a_promise a_base a_stamp a_units a_unit a_sort a_placeOf a_client a_rowLength a_row a_closedWith a_stampOf n (nI d)) 16 b hbm.1 (fun n e => ?_) (fun n hlt => ?_) (fun n d hd H => ?_) 17 0 (by omega) (by omega)⟩
  · exact br_t lb_t (h0 e)
  · obtain ⟨c1, c2, c3, c4, c5⟩ := hbm.2.2 hlt
    obtain ⟨m1, m2, m3, m4⟩ := hm hlt
    have hne := hmt hlt
    have hc : 16 * m + b < 80 := by omega
    have hc2 : 16 * t + b < 80 := by omega
    have hu := hb.2 _ hc
    have hcc : (nI (16 * m + b)).toNatClampNeg = 16 * m + b := nI_clamp (by omega)
    have hcc2 : (nI (16 * t + b)).toNatClampNeg = 16 * t + b := nI_clamp (by omega)
    have hv := vp_in_nI hc (by decide : 80 < 2 ^ 31)
    have hv2 := vp_in_nI hc2 (by decide : 80 < 2 ^ 31)
    have hcn := rd_cnL (rd_g nu st b (qt_sp T b)) 5
    refine br_f (lb_f hlt) (ym_inRow (v := (f_active, f_epoch, a_nodeUp, a_journalUp, a_masterUp, a_touch, a_log, a_many, a_promise, a_base, a_stamp, a_units, a_unit, a_sort, a_placeOf, a_client, a_rowLength, a_row, a_closedWith, a_stampOf)) h hI hlt (fun _ => br_f bo_1 (ym_isOpenLast (v := (f_active, f_epoch, a_nodeUp, a_journalUp, a_masterUp, a_touch, a_log, a_many, a_promise, a_base, a_stamp, a_units, a_unit, a_sort, a_placeOf, a_client, a_rowLength, a_row, a_closedWith, a_stampOf)) h hI hlt (fun z => absurd z c2) (fun _ => br_t rfl (br_f bo_1 (ym_goodOnes (v := (f_active, f_epoch, a_nodeUp, a_journalUp, a_masterUp, a_touch, a_log, a_many, a_promise, a_base, a_stamp, a_units, a_unit, a_sort, a_placeOf, a_client, a_rowLength, a_row, a_closedWith, a_stampOf)) h hI hD hb hlt c1 ?_))))) (fun z => absurd c1 z))
    unfold wY_copied_45
    refine ym_ones ?_
    rw [rd_co]
    refine ym_idlest (v := (f_active, f_epoch, a_nodeUp, a_journalUp, a_masterUp, a_touch, a_log, a_many, a_promise, a_base, a_stamp, a_units, a_unit, a_sort, a_placeOf, a_client, a_rowLength, a_row, a_closedWith, a_stampOf)) hD hb ?_
    rw [m4, qt_ms]
    refine br_f (fun z => by have := (nI_eq (b := 0) (by omega) (by decide)).mp z; omega) (br_f (fun z => by have := (nI_ltI (a := 2) (by decide) (by omega)).mp z; omega) (br_t (ix_0 (by omega)) (ym_first (v := (f_active, f_epoch, a_nodeUp, a_journalUp, a_masterUp, a_touch, a_log, a_many, a_promise, a_base, a_stamp, a_units, a_unit, a_sort, a_placeOf, a_client, a_rowLength, a_row, a_closedWith, a_stampOf)) h hI hD hb hlt c1 m1 ?_)))
    rw [ls_vS m2]
    obtain ⟨l1, l2, l3, l4, l5, l6, l7, l8, l9⟩ := hL
    obtain ⟨d1, d2, d3, d4⟩ := hD
    refine nm_r (mu_l m 16 b) (nm_r (mu_l t 16 b) ⟨hv, hv2, nm_e ⟨hv, hv2, nm_e ?_⟩⟩)
    rw [hcc, hcc2]
    have ku : ∀ j, j < 80 → upd a_units (16 * t + b) (a_units (16 * m + b)) j = nI (qt_u un (16 * t + b) (un (16 * m + b)) j) := by
      intro j hj
      by_cases z : j = 16 * t + b
      · subst z; rw [pk_us, qt_us]; exact d3 _ hc
      · rw [pk_un z, qt_un z]; exact d3 j hj
    have ks : ∀ j, j < 80 → upd a_stamp (16 * t + b) (a_stamp (16 * m + b)) j = qt_m (qt_u st (16 * t + b) (st (16 * m + b)) j) := by
      intro j hj
      by_cases z : j = 16 * t + b
      · subst z; rw [pk_us, qt_us]; exact d2 _ hc
      · rw [pk_un z, qt_un z]; exact d2 j hj
    have kf : upd a_units (16 * t + b) (a_units (16 * m + b)) (16 * m + b) = nI (un (16 * m + b)) := by
      rw [pk_un (by omega)]; exact d3 _ hc
    have key : ∀ k n j, j + k = un (16 * m + b) → k < n → ∀ aU : Nat → Int32, aU = rd_cp ua (16 * t + b) (16 * m + b) j → wY_copied_135 post (nI b) (nI (16 * m + b)) (nI (16 * t + b)) f_active f_epoch n (nI j) a_nodeUp a_journalUp a_masterUp a_touch a_log a_many a_promise a_base (upd a_stamp (16 * t + b) (a_stamp (16 * m + b))) (upd a_units (16 * t + b) (a_units (16 * m + b))) aU a_sort a_placeOf a_client a_rowLength a_row a_closedWith a_stampOf := by
      intro k
      induction k with
      | zero =>
        intro n j hj hn aU hU
        obtain ⟨n, rfl⟩ : ∃ n', n = n' + 1 := ⟨n - 1, by omega⟩
        have e : j = un (16 * m + b) := by omega
        refine ⟨hv, br_t ?_ (h1 hlt _ ⟨l1, l2, l3, l4, l5, l6, l7, l8, l9⟩ ⟨d1, ks, ku, ?_⟩)⟩
        · rw [hcc, kf, e]; exact lb_t
        · rw [hU, e]
      | succ k ih =>
        intro n j hj hn aU hU
        obtain ⟨n, rfl⟩ : ∃ n', n = n' + 1 := ⟨n - 1, by omega⟩
        refine ⟨hv, br_f ?_ ?_⟩
        · rw [hcc, kf]; exact lb_f (by omega) (by omega)
        · rw [show 8 * nI (16 * m + b) + nI j = nI (8 * (16 * m + b) + j) from mu_l _ 8 _, show 8 * nI (16 * t + b) + nI j = nI (8 * (16 * t + b) + j) from mu_l _ 8 _]
          refine ⟨vp_in_nI (by omega) (by decide), vp_in_nI (by omega) (by decide), nm_e (nm_r (nI_1 j) (ih n (j + 1) (by omega) (by omega) _ ?_))⟩
          rw [nI_clamp (by omega), nI_clamp (by omega), hU]
          rfl
    exact ⟨un (16 * m + b) + 1, key (un (16 * m + b)) _ 0 (by omega) (by omega) _ d4⟩
  · have hlt : d < 16 := by have := hbm.1; omega
    have z := hbm.2.1 d hd
    exact br_f (lb_f hlt) (ym_inRow (v := (f_active, f_epoch, a_nodeUp, a_journalUp, a_masterUp, a_touch, a_log, a_many, a_promise, a_base, a_stamp, a_units, a_unit, a_sort, a_placeOf, a_client, a_rowLength, a_row, a_closedWith, a_stampOf)) h hI hlt (fun c1 => br_f bo_1 (ym_isOpenLast (v := (f_active, f_epoch, a_nodeUp, a_journalUp, a_masterUp, a_touch, a_log, a_many, a_promise, a_base, a_stamp, a_units, a_unit, a_sort, a_placeOf, a_client, a_rowLength, a_row, a_closedWith, a_stampOf)) h hI hlt (fun _ => br_f bo_1 (br_t rfl (s45z _ d H))) (fun c2 => br_t rfl (br_f bo_1 (ym_goodOnes (v := (f_active, f_epoch, a_nodeUp, a_journalUp, a_masterUp, a_touch, a_log, a_many, a_promise, a_base, a_stamp, a_units, a_unit, a_sort, a_placeOf, a_client, a_rowLength, a_row, a_closedWith, a_stampOf)) h hI hD hb hlt c1 (s45 _ d hlt c1 c2 z H)))))) (fun _ => br_t rfl (br_t rfl (s45z _ d H))))
theorem ym_drop {v : SY} (h : sy_T T v) (hI : qt_iv T) (hL : sy_L (mu, ju, ac, ep, to, pr, ba, le, lg) v) (hD : sy_D (nu, st, un, ua) v) (hb : rd_bd (nu, st, un, ua)) {post : Int32 → SY → Prop} {d : Nat} (hd : d < 5) {keep : Nat → Bool} (hk : ∀ b, keep b = true ↔ qt_in (qt_rl T) (qt_ro T) b ∧ rd_g nu st b (qt_sp T b) d = true)
    (hp : ∀ v', sy_L (mu, ju, ac, ep, to, pr, ba, le, lg) v' → sy_D (nu, rd_dr keep d 16 st, un, ua) v' → post (nI (rd_cn (fun b => decide (st (16 * d + b) ≠ 0 ∧ keep b = false)) 16)) v') : ∀ f_active f_epoch a_nodeUp a_journalUp a_masterUp a_touch a_log a_many a_promise a_base a_stamp a_units a_unit a_sort a_placeOf a_client a_rowLength a_row a_closedWith a_stampOf, v = (f_active, f_epoch, a_nodeUp, a_journalUp, a_masterUp, a_touch, a_log, a_many, a_promise, a_base, a_stamp, a_units, a_unit, a_sort, a_placeOf, a_client, a_rowLength, a_row, a_closedWith, a_stampOf) → ∃ n, wY_tend_47 post (nI d) f_active f_epoch n 0 0 a_nodeUp a_journalUp a_masterUp a_touch a_log a_many a_promise a_base a_stamp a_units a_unit a_sort a_placeOf a_client a_rowLength a_row a_closedWith a_stampOf := by
  intro f_active f_epoch a_nodeUp a_journalUp a_masterUp a_touch a_log a_many a_promise a_base a_stamp a_units a_unit a_sort a_placeOf a_client a_rowLength a_row a_closedWith a_stampOf ev
  subst ev
  obtain ⟨l1, l2, l3, l4, l5, l6, l7, l8, l9⟩ := hL
  obtain ⟨d1, d2, d3, d4⟩ := hD
  have h' : qt_ag False T a_sort a_placeOf a_client a_closedWith a_rowLength a_row a_stampOf := h
  have key : ∀ k n b, b + k = 16 → k < n → ∀ aH : Nat → Int32, (∀ c, c < 80 → aH c = qt_m (rd_dr keep d b st c)) → wY_tend_47 post (nI d) f_active f_epoch n (nI (rd_cn (fun b => decide (st (16 * d + b) ≠ 0 ∧ keep b = false)) b)) (nI b) a_nodeUp a_journalUp a_masterUp a_touch a_log a_many a_promise a_base aH a_units a_unit a_sort a_placeOf a_client a_rowLength a_row a_closedWith a_stampOf := by
    intro k
    induction k with
    | zero =>
      intro n b hb' hn aH H
      obtain ⟨n, rfl⟩ : ∃ n', n = n' + 1 := ⟨n - 1, by omega⟩
      have e : b = 16 := by omega
      subst e
      exact br_t lb_t (hp _ ⟨l1, l2, l3, l4, l5, l6, l7, l8, l9⟩ ⟨d1, H, d3, d4⟩)
    | succ k ih =>
      intro n b hb' hn aH H
      obtain ⟨n, rfl⟩ : ∃ n', n = n' + 1 := ⟨n - 1, by omega⟩
      have hb16 : b < 16 := by omega
      have hc : 16 * d + b < 80 := by omega
      have hs := hb.1 _ hc
      have hv := vp_in_nI hc (by decide : 80 < 2 ^ 31)
      have hcc : (nI (16 * d + b)).toNatClampNeg = 16 * d + b := nI_clamp (by omega)
      have ecol : ∀ e, e < 5 → rd_dr keep d b st (16 * e + b) = st (16 * e + b) := fun e _ => rd_drN hb16 (Nat.le_refl b)
      have ec : rd_dr keep d b st (16 * d + b) = st (16 * d + b) := ecol d hd
      have es : aH (nI (16 * d + b)).toNatClampNeg = qt_m (st (16 * d + b)) := by rw [hcc, H _ hc, ec]
      have skip : ¬ (st (16 * d + b) ≠ 0 ∧ keep b = false) → wY_tend_47 post (nI d) f_active f_epoch n (nI (rd_cn (fun b => decide (st (16 * d + b) ≠ 0 ∧ keep b = false)) b)) (nI (b + 1)) a_nodeUp a_journalUp a_masterUp a_touch a_log a_many a_promise a_base aH a_units a_unit a_sort a_placeOf a_client a_rowLength a_row a_closedWith a_stampOf := by
        intro z
        have := ih n (b + 1) (by omega) (by omega) aH (fun c hc' => by
          have e : rd_dr keep d (b + 1) st c = rd_dr keep d b st c := by
            rw [rd_drS hb16]
            split
            · rename_i w
              rw [w.1, ec]
              by_cases y : st (16 * d + b) = 0
              · exact y.symm
              · exact absurd ⟨y, w.2⟩ z
            · rfl
          rw [e]; exact H c hc')
        rw [rd_cnF (f := fun b => decide (st (16 * d + b) ≠ 0 ∧ keep b = false)) (decide_eq_false z)] at this
        exact this
      have hbd : rd_bd (nu, rd_dr keep d b st, un, ua) := ⟨fun c hc => rd_drB (hb.1 c hc), hb.2⟩
      have hDb : sy_D (nu, rd_dr keep d b st, un, ua) (f_active, f_epoch, a_nodeUp, a_journalUp, a_masterUp, a_touch, a_log, a_many, a_promise, a_base, aH, a_units, a_unit, a_sort, a_placeOf, a_client, a_rowLength, a_row, a_closedWith, a_stampOf) := ⟨d1, H, d3, d4⟩
      have eg : rd_g nu (rd_dr keep d b st) b (qt_sp T b) d = rd_g nu st b (qt_sp T b) d := rd_gC ecol hd
      have s74 : keep b = false → wY_tend_74 post (wY_tend_47 post (nI d) f_active f_epoch n) (nI d) (nI (rd_cn (fun b => decide (st (16 * d + b) ≠ 0 ∧ keep b = false)) b)) (nI b) f_active f_epoch a_nodeUp a_journalUp a_masterUp a_touch a_log a_many a_promise a_base aH a_units a_unit a_sort a_placeOf a_client a_rowLength a_row a_closedWith a_stampOf := by
        intro kf
        refine br_t rfl ?_
        rw [show 16 * nI d + nI b = nI (16 * d + b) from mu_l d 16 b, es]
        refine ⟨hv, cd_if (qt_Nm (s := 0) (by omega) (by decide)) (fun z => ⟨hv, nm_e ?_⟩) (fun z => nm_r (nI_1 b) (skip (fun y => by omega)))⟩
        refine nm_r (rd_cnT (f := fun b => decide (st (16 * d + b) ≠ 0 ∧ keep b = false)) (decide_eq_true ⟨by omega, kf⟩)) (nm_r (nI_1 b) (ih n (b + 1) (by omega) (by omega) _ (fun c hc' => ?_)))
        rw [hcc, rd_drS hb16]
        by_cases w : c = 16 * d + b
        · subst w
          rw [pk_us, if_pos (c := 16 * d + b = 16 * d + b ∧ keep b = false) ⟨rfl, kf⟩, qt_m0]
        · rw [pk_un w, if_neg (c := c = 16 * d + b ∧ keep b = false) (fun q => w q.1)]; exact H c hc'
      have kf0 : ¬ (qt_in (qt_rl T) (qt_ro T) b ∧ rd_g nu st b (qt_sp T b) d = true) → keep b = false := by
        intro y
        cases hh : keep b with
        | false => rfl
        | true => exact absurd ((hk b).mp hh) y
      refine br_f (lb_f hb16) (ym_inRow (v := (f_active, f_epoch, a_nodeUp, a_journalUp, a_masterUp, a_touch, a_log, a_many, a_promise, a_base, aH, a_units, a_unit, a_sort, a_placeOf, a_client, a_rowLength, a_row, a_closedWith, a_stampOf)) h' hI hb16 (fun y1 => br_f bo_1 (ym_isGood (v := (f_active, f_epoch, a_nodeUp, a_journalUp, a_masterUp, a_touch, a_log, a_many, a_promise, a_base, aH, a_units, a_unit, a_sort, a_placeOf, a_client, a_rowLength, a_row, a_closedWith, a_stampOf)) h' hI hDb hbd hb16 y1 hd (fun y2 => br_f bo_1 (br_f bo_1 (nm_r (nI_1 b) (skip (fun x => ?_))))) (fun y2 => br_t rfl (s74 (kf0 (fun x => ?_)))))) (fun y1 => br_t rfl (s74 (kf0 (fun x => y1 x.1)))))
      · rw [eg] at y2
        rw [(hk b).mpr ⟨y1, y2⟩] at x
        exact absurd x.2 (by decide)
      · rw [eg] at y2
        exact absurd (y2.symm.trans x.2) (by decide)
  refine ⟨17, key 16 17 0 (by omega) (by omega) _ (fun c hc => ?_)⟩
  rw [rd_dr0]; exact d2 c hc
end
end
section
/-! tend: closed -/
theorem i_vc_tend {k : Nat} {u : SX} {v : SY} (I : i_Rel k u v) (hk : k + 4 ≤ 2048) (v1 : Int32) : wpX_tend (fun r u' => wpY_tend (fun r' v' => r' = r ∧ i_Rel (k + 4) u' v') v v1) u v1 := by
  have I' := i_up I
  obtain ⟨T, ⟨mu, ju, ac, ep, to, pr, ba, le, lg⟩, ⟨nu, st, un, ua⟩, h1, h2, h3, h4, h5, h6, h7, h8⟩ := I
  have hb := rl_bd h7 (by omega) h8
  have i5 := h7.2.2.2.2.1
  have R : ∀ u' v' st' un' ua', sx_T T u' → sx_L (mu, ju, ac, ep, to, pr, ba, le, lg) u' → sx_D (nu, st', un', ua') u' → sy_L (mu, ju, ac, ep, to, pr, ba, le, lg) v' → sy_D (nu, st', un', ua') v' → (∀ c, c < 80 → (∃ c', c' < 80 ∧ st' c ≤ st c')) → (∀ c, c < 80 → un' c ≤ 8) → i_Rel (k + 4) u' v' := by
    intro u' v' st' un' ua' a1 a2 a3 a4 a5 a6 a7
    refine ⟨T, _, _, a1, a2, a3, a4, a5, h6, lj_ivK (by omega) h7, ⟨fun c hc => ?_, a7⟩⟩
    obtain ⟨c', hc', hle⟩ := a6 c hc
    exact Nat.le_trans hle (h8.1 c' hc')
  have R0 : ∀ v', sy_L (mu, ju, ac, ep, to, pr, ba, le, lg) v' → sy_D (nu, st, un, ua) v' → i_Rel (k + 4) u v' := fun v' g1 g2 => ⟨T, _, _, h1, h2, h3, g1, g2, h6, lj_ivK (by omega) h7, h8⟩
  obtain ⟨d, hd⟩ := ix_e v1 (N := 5) (by decide)
  obtain ⟨b, hbm⟩ := ls_ex (rd_cpb T nu st) 16
  obtain ⟨m, hm⟩ := ls_ex (fun d => rd_g nu st b (qt_sp T b) d = true) 5
  have hmt : b < 16 → (ls_f (fun d => rd_g nu st b (qt_sp T b) d = true) 5 m ∧ m < 5 ∧ (rd_il nu st (fun x => !rd_g nu st b (qt_sp T b) x) 5 - 1) < 5 ∧ rd_il nu st (fun x => !rd_g nu st b (qt_sp T b) x) 5 = (rd_il nu st (fun x => !rd_g nu st b (qt_sp T b) x) 5 - 1) + 1) ∧ m ≠ rd_il nu st (fun x => !rd_g nu st b (qt_sp T b) x) 5 - 1 := by
    intro hlt
    obtain ⟨c1, c2, c3, c4, c5⟩ := hbm.2.2 hlt
    obtain ⟨e, he, hg⟩ := rd_cnP c3
    have hm5 : m < 5 := ls_some hm he hg
    rcases rd_ilP (nu := nu) (st := st) (ok := fun x => !rd_g nu st b (qt_sp T b) x) (n := 5) with y | ⟨y1, y2, y3⟩
    · exact absurd y c5
    · refine ⟨⟨hm, hm5, by omega, by omega⟩, ?_⟩
      intro z
      rw [← z] at y2
      have := hm.2.2 hm5
      simp at y2
      exact absurd (y2.symm.trans this) (by decide)
  generalize rd_il nu st (fun x => !rd_g nu st b (qt_sp T b) x) 5 - 1 = t at hmt
  obtain ⟨keep, hkeep⟩ := bo_ex (fun b => qt_in (qt_rl T) (qt_ro T) b ∧ rd_g nu st b (qt_sp T b) d = true)
  generalize hR : i_Rel (k + 4) = Q at I' R R0
  obtain ⟨f_active, f_epoch, a_dataNodeDown, a_journalDown, a_masterDown, a_inTouch, a_promise, a_base, a_logLength, a_logEpoch, a_logKind, a_logA, a_logB, a_logC, a_inodeState, a_inodePlace, a_inodeClient, a_closeUnits, a_rowLength, a_rowBlock, a_blockStamp, a_replicaHeld, a_replicaStamp, a_unitCount, a_unitValue⟩ := u
  obtain ⟨g_active, g_epoch, a_nodeUp, a_journalUp, a_masterUp, a_touch, a_log, a_many, b_promise, b_base, a_stamp, a_units, a_unit, a_sort, a_placeOf, a_client, b_rowLength, a_row, a_closedWith, a_stampOf⟩ := v
  refine cd_if (xm_act h2.1 h7.2.1) (fun za => ?_) (fun za => ?_)
  · exact br_f (fun z => by have := (ym_act h4.1 h7.2.1).mp z; omega) ⟨rfl, I'⟩
  · have ya : 0 ≤ g_active := (ym_act h4.1 h7.2.1).mpr (by omega)
    have hT : T = qt_ab (lg (lj_src to)) (le (lj_src to)) := (h7.2.2.2.2.2 (by omega)).2.2
    have hwf : ∀ j, j < 3 → qt_wf (lg j) (le j) ∧ le j ≤ 1000 := fun j hj => ⟨(i5 j hj).1, (i5 j hj).2.2.2⟩
    have bad : ¬ v1 = -1 → ¬ (d < 5 ∧ nu d = true) → wpY_tend (fun r' v' => r' = -2 ∧ Q (f_active, f_epoch, a_dataNodeDown, a_journalDown, a_masterDown, a_inTouch, a_promise, a_base, a_logLength, a_logEpoch, a_logKind, a_logA, a_logB, a_logC, a_inodeState, a_inodePlace, a_inodeClient, a_closeUnits, a_rowLength, a_rowBlock, a_blockStamp, a_replicaHeld, a_replicaStamp, a_unitCount, a_unitValue) v') (g_active, g_epoch, a_nodeUp, a_journalUp, a_masterUp, a_touch, a_log, a_many, b_promise, b_base, a_stamp, a_units, a_unit, a_sort, a_placeOf, a_client, b_rowLength, a_row, a_closedWith, a_stampOf) v1 := by
      intro z1 z2
      refine br_t ya (ym_tell h4 h5 hwf ?_)
      rintro ⟨f_active, f_epoch, a_nodeUp, a_journalUp, a_masterUp, a_touch, a_log, a_many, a_promise, a_base, a_stamp, a_units, a_unit, a_sort, a_placeOf, a_client, a_rowLength, a_row, a_closedWith, a_stampOf⟩ gT gL gD
      refine br_f z1 (ym_in hd (by decide) rfl (fun hlt => br_f bo_1 ?_) (fun e => br_t rfl ⟨rfl, R0 _ gL gD⟩))
      have e := ix_i hd hlt
      subst e
      exact ⟨vp_in_nI hlt (by decide), br_t ((cd_p (gD.1 d hlt) (by omega)).mpr (by cases hh : nu d; rfl; exact absurd ⟨hlt, hh⟩ z2)) ⟨rfl, R0 _ gL gD⟩⟩
    refine cd_if Iff.rfl (fun z1 => ?_) (fun z1 => ?_)
    · refine xm_replicate h1 h6 h2 h3 hb hbm (fun hlt => (hmt hlt).1) (fun e => ?_) (fun hlt => ?_)
      · refine br_t ya (ym_tell h4 h5 hwf ?_)
        rintro ⟨f_active, f_epoch, a_nodeUp, a_journalUp, a_masterUp, a_touch, a_log, a_many, a_promise, a_base, a_stamp, a_units, a_unit, a_sort, a_placeOf, a_client, a_rowLength, a_row, a_closedWith, a_stampOf⟩ gT gL gD
        rw [← hT] at gT
        refine br_t z1 (ym_copied (v := (f_active, f_epoch, a_nodeUp, a_journalUp, a_masterUp, a_touch, a_log, a_many, a_promise, a_base, a_stamp, a_units, a_unit, a_sort, a_placeOf, a_client, a_rowLength, a_row, a_closedWith, a_stampOf)) gT h6 gL gD hb hbm (fun hlt => (hmt hlt).1) (fun hlt => (hmt hlt).2) (fun _ => ⟨rfl, R0 _ gL gD⟩) (fun hlt => absurd hlt (by rw [e]; decide)))
      · rintro ⟨f_active, f_epoch, a_dataNodeDown, a_journalDown, a_masterDown, a_inTouch, a_promise, a_base, a_logLength, a_logEpoch, a_logKind, a_logA, a_logB, a_logC, a_inodeState, a_inodePlace, a_inodeClient, a_closeUnits, a_rowLength, a_rowBlock, a_blockStamp, a_replicaHeld, a_replicaStamp, a_unitCount, a_unitValue⟩ k1 k2 k3
        refine br_t ya (ym_tell h4 h5 hwf ?_)
        rintro ⟨g_active, g_epoch, a_nodeUp, a_journalUp, a_masterUp, a_touch, a_log, a_many, b_promise, b_base, a_stamp, a_units, a_unit, a_sort, a_placeOf, a_client, b_rowLength, a_row, a_closedWith, a_stampOf⟩ gT gL gD
        rw [← hT] at gT
        refine br_t z1 (ym_copied (v := (g_active, g_epoch, a_nodeUp, a_journalUp, a_masterUp, a_touch, a_log, a_many, b_promise, b_base, a_stamp, a_units, a_unit, a_sort, a_placeOf, a_client, b_rowLength, a_row, a_closedWith, a_stampOf)) gT h6 gL gD hb hbm (fun hlt => (hmt hlt).1) (fun hlt => (hmt hlt).2) (fun e => by omega) (fun _ => ?_))
        rintro ⟨g_active, g_epoch, a_nodeUp, a_journalUp, a_masterUp, a_touch, a_log, a_many, b_promise, b_base, a_stamp, a_units, a_unit, a_sort, a_placeOf, a_client, b_rowLength, a_row, a_closedWith, a_stampOf⟩ m1 m2
        obtain ⟨⟨_, hm5, ht5, _⟩, _⟩ := hmt hlt
        refine ⟨rfl, R _ _ _ _ _ k1 k2 k3 m1 m2 (fun c hc => ?_) (fun c hc => ?_)⟩
        · by_cases z : c = 16 * t + b
          · subst z; exact ⟨16 * m + b, by omega, by rw [qt_us]; exact Nat.le_refl _⟩
          · exact ⟨c, hc, by rw [qt_un z]; exact Nat.le_refl _⟩
        · by_cases z : c = 16 * t + b
          · subst z; rw [qt_us]; exact hb.2 _ (by omega)
          · rw [qt_un z]; exact hb.2 c hc
    · refine ix_t hd rfl (by decide) (fun hlt e => ?_) (fun e => bad z1 (fun z => by omega))
      subst e
      refine ⟨vp_in_nI hlt (by decide), cd_if (cd_n (h3.1 d hlt) (by omega)) (fun hu => ?_) (fun hu => bad z1 (fun z => hu z.2))⟩
      refine xm_drop h1 h6 h2 h3 hb hlt hkeep ?_
      rintro ⟨f_active, f_epoch, a_dataNodeDown, a_journalDown, a_masterDown, a_inTouch, a_promise, a_base, a_logLength, a_logEpoch, a_logKind, a_logA, a_logB, a_logC, a_inodeState, a_inodePlace, a_inodeClient, a_closeUnits, a_rowLength, a_rowBlock, a_blockStamp, a_replicaHeld, a_replicaStamp, a_unitCount, a_unitValue⟩ k1 k2 k3
      refine br_t ya (ym_tell h4 h5 hwf ?_)
      rintro ⟨g_active, g_epoch, a_nodeUp, a_journalUp, a_masterUp, a_touch, a_log, a_many, b_promise, b_base, a_stamp, a_units, a_unit, a_sort, a_placeOf, a_client, b_rowLength, a_row, a_closedWith, a_stampOf⟩ gT gL gD
      rw [← hT] at gT
      refine br_f z1 (ym_in hd (by decide) rfl (fun _ => br_f bo_1 ⟨vp_in_nI hlt (by decide), br_f ((not_congr (cd_p (gD.1 d hlt) (by omega))).mpr (by rw [hu]; decide)) ?_⟩) (fun e => by omega))
      refine ym_drop gT h6 gL gD hb hlt hkeep ?_ _ _ _ _ _ _ _ _ _ _ _ _ _ _ _ _ _ _ _ _ rfl
      intro v' m1 m2
      exact ⟨rfl, R _ _ _ _ _ k1 k2 k3 m1 m2 (fun c hc => ⟨c, hc, rd_drB (Nat.le_refl _)⟩) hb.2⟩
end
section
/-! new objects -/
def lj_L0 : lj_L := (fun _ => true, fun _ => true, 0, 0, fun _ => false, fun _ => 0, fun _ => 0, fun _ => 0, fun _ _ => (0, 0, 0, 0, 0))
def rd_D0 : rd_D := (fun _ => true, fun _ => 0, fun _ => 0, fun _ => 0)
theorem ym_init {post : SY → Prop} (hp : ∀ v, sy_L lj_L0 v → sy_D rd_D0 v → post v) : wpY_init post := by
  have l4 : ∀ aN aJ aM : Nat → Int32, (∀ j, j < 5 → aN j = 1) → (∀ j, j < 3 → aJ j = 1) → (∀ j, j < 2 → aM j = 1) → ∃ n, wY_init_210 post (-1) 0 n 0 aN aJ aM (fun _ => 0) (fun _ => 0) (fun _ => 0) (fun _ => 0) (fun _ => 0) (fun _ => 0) (fun _ => 0) (fun _ => 0) (fun _ => 0) (fun _ => 0) (fun _ => 0) (fun _ => 0) (fun _ => 0) (fun _ => 0) (fun _ => 0) := by
    intro aN aJ aM hN hJ hM
    have key : ∀ k n i, i + k = 80 → k < n → ∀ aS : Nat → Int32, (∀ j, j < i → aS j = -1) → wY_init_210 post (-1) 0 n (nI i) aN aJ aM (fun _ => 0) (fun _ => 0) (fun _ => 0) (fun _ => 0) (fun _ => 0) aS (fun _ => 0) (fun _ => 0) (fun _ => 0) (fun _ => 0) (fun _ => 0) (fun _ => 0) (fun _ => 0) (fun _ => 0) (fun _ => 0) := by
      intro k
      induction k with
      | zero =>
        intro n i hi hn aS H
        obtain ⟨n, rfl⟩ : ∃ n', n = n' + 1 := ⟨n - 1, by omega⟩
        have e : i = 80 := by omega
        subst e
        refine br_t lb_t (hp _ ⟨?_, rfl, ?_, ?_, ?_, ?_, ?_, ?_, ?_⟩ ⟨?_, ?_, ?_, rfl⟩)
        · exact qt_m0.symm
        · intro j hj; rw [hJ j hj]; rfl
        · intro j hj; rw [hM j hj]; rfl
        · intro j hj; rfl
        · intro j hj; rfl
        · intro j hj; rfl
        · intro j hj; rfl
        · intro j k hj hk; exact absurd hk (Nat.not_lt_zero _)
        · intro j hj; rw [hN j hj]; rfl
        · intro c hc; rw [H c hc]; exact qt_m0.symm
        · intro c hc; rfl
      | succ k ih =>
        intro n i hi hn aS H
        obtain ⟨n, rfl⟩ : ∃ n', n = n' + 1 := ⟨n - 1, by omega⟩
        have hi' : i < 80 := by omega
        refine br_f (lb_f hi') ⟨vp_in_nI hi' (by decide), nm_e (nm_r (nI_1 i) (ih n (i + 1) (by omega) (by omega) _ (fun j hj => ?_)))⟩
        rw [nI_clamp (by omega)]
        by_cases z : j = i
        · subst z; rw [pk_us]
        · rw [pk_un z]; exact H j (by omega)
    exact ⟨81, key 80 81 0 (by omega) (by omega) _ (fun j hj => by omega)⟩
  have l3 : ∀ aN aJ : Nat → Int32, (∀ j, j < 5 → aN j = 1) → (∀ j, j < 3 → aJ j = 1) → ∃ n, wY_init_190 post (-1) 0 n 0 aN aJ (fun _ => 0) (fun _ => 0) (fun _ => 0) (fun _ => 0) (fun _ => 0) (fun _ => 0) (fun _ => 0) (fun _ => 0) (fun _ => 0) (fun _ => 0) (fun _ => 0) (fun _ => 0) (fun _ => 0) (fun _ => 0) (fun _ => 0) (fun _ => 0) := by
    intro aN aJ hN hJ
    have key : ∀ k n i, i + k = 2 → k < n → ∀ aM : Nat → Int32, (∀ j, j < i → aM j = 1) → wY_init_190 post (-1) 0 n (nI i) aN aJ aM (fun _ => 0) (fun _ => 0) (fun _ => 0) (fun _ => 0) (fun _ => 0) (fun _ => 0) (fun _ => 0) (fun _ => 0) (fun _ => 0) (fun _ => 0) (fun _ => 0) (fun _ => 0) (fun _ => 0) (fun _ => 0) (fun _ => 0) := by
      intro k
      induction k with
      | zero =>
        intro n i hi hn aM H
        obtain ⟨n, rfl⟩ : ∃ n', n = n' + 1 := ⟨n - 1, by omega⟩
        have e : i = 2 := by omega
        subst e
        exact br_t lb_t (l4 aN aJ aM hN hJ H)
      | succ k ih =>
        intro n i hi hn aM H
        obtain ⟨n, rfl⟩ : ∃ n', n = n' + 1 := ⟨n - 1, by omega⟩
        have hi' : i < 2 := by omega
        refine br_f (lb_f hi') ⟨vp_in_nI hi' (by decide), nm_e (nm_r (nI_1 i) (ih n (i + 1) (by omega) (by omega) _ (fun j hj => ?_)))⟩
        rw [nI_clamp (by omega)]
        by_cases z : j = i
        · subst z; rw [pk_us]; rfl
        · rw [pk_un z]; exact H j (by omega)
    exact ⟨3, key 2 3 0 (by omega) (by omega) _ (fun j hj => by omega)⟩
  have l2 : ∀ aN : Nat → Int32, (∀ j, j < 5 → aN j = 1) → ∃ n, wY_init_170 post (-1) 0 n 0 aN (fun _ => 0) (fun _ => 0) (fun _ => 0) (fun _ => 0) (fun _ => 0) (fun _ => 0) (fun _ => 0) (fun _ => 0) (fun _ => 0) (fun _ => 0) (fun _ => 0) (fun _ => 0) (fun _ => 0) (fun _ => 0) (fun _ => 0) (fun _ => 0) (fun _ => 0) := by
    intro aN hN
    have key : ∀ k n i, i + k = 3 → k < n → ∀ aJ : Nat → Int32, (∀ j, j < i → aJ j = 1) → wY_init_170 post (-1) 0 n (nI i) aN aJ (fun _ => 0) (fun _ => 0) (fun _ => 0) (fun _ => 0) (fun _ => 0) (fun _ => 0) (fun _ => 0) (fun _ => 0) (fun _ => 0) (fun _ => 0) (fun _ => 0) (fun _ => 0) (fun _ => 0) (fun _ => 0) (fun _ => 0) (fun _ => 0) := by
      intro k
      induction k with
      | zero =>
        intro n i hi hn aJ H
        obtain ⟨n, rfl⟩ : ∃ n', n = n' + 1 := ⟨n - 1, by omega⟩
        have e : i = 3 := by omega
        subst e
        exact br_t lb_t (l3 aN aJ hN H)
      | succ k ih =>
        intro n i hi hn aJ H
        obtain ⟨n, rfl⟩ : ∃ n', n = n' + 1 := ⟨n - 1, by omega⟩
        have hi' : i < 3 := by omega
        refine br_f (lb_f hi') ⟨vp_in_nI hi' (by decide), nm_e (nm_r (nI_1 i) (ih n (i + 1) (by omega) (by omega) _ (fun j hj => ?_)))⟩
        rw [nI_clamp (by omega)]
        by_cases z : j = i
        · subst z; rw [pk_us]; rfl
        · rw [pk_un z]; exact H j (by omega)
    exact ⟨4, key 3 4 0 (by omega) (by omega) _ (fun j hj => by omega)⟩
  have l1 : ∀ k n i, i + k = 5 → k < n → ∀ aN : Nat → Int32, (∀ j, j < i → aN j = 1) → wY_init_150 post (-1) 0 n (nI i) aN (fun _ => 0) (fun _ => 0) (fun _ => 0) (fun _ => 0) (fun _ => 0) (fun _ => 0) (fun _ => 0) (fun _ => 0) (fun _ => 0) (fun _ => 0) (fun _ => 0) (fun _ => 0) (fun _ => 0) (fun _ => 0) (fun _ => 0) (fun _ => 0) (fun _ => 0) := by
    intro k
    induction k with
    | zero =>
      intro n i hi hn aN H
      obtain ⟨n, rfl⟩ : ∃ n', n = n' + 1 := ⟨n - 1, by omega⟩
      have e : i = 5 := by omega
      subst e
      exact br_t lb_t (l2 aN H)
    | succ k ih =>
      intro n i hi hn aN H
      obtain ⟨n, rfl⟩ : ∃ n', n = n' + 1 := ⟨n - 1, by omega⟩
      have hi' : i < 5 := by omega
      refine br_f (lb_f hi') ⟨vp_in_nI hi' (by decide), nm_e (nm_r (nI_1 i) (ih n (i + 1) (by omega) (by omega) _ (fun j hj => ?_)))⟩
      rw [nI_clamp (by omega)]
      by_cases z : j = i
      · subst z; rw [pk_us]; rfl
      · rw [pk_un z]; exact H j (by omega)
  exact ⟨6, l1 5 6 0 (by omega) (by omega) _ (fun j hj => by omega)⟩
theorem i_vc0 : wpX_init (fun u => wpY_init (fun v => i_Rel 0 u v)) := by
  unfold wpX_init
  refine xm_forget (L := lj_L0) (D := rd_D0) ⟨qt_m0.symm, rfl, fun _ _ => rfl, fun _ _ => rfl, fun _ _ => rfl, fun _ _ => rfl, fun _ _ => rfl, fun _ _ => rfl, fun _ _ _ hk => absurd hk (Nat.not_lt_zero _)⟩ ⟨fun _ _ => rfl, fun _ _ => rfl, fun _ _ h => absurd rfl h, fun _ _ => rfl, rfl⟩ ?_
  rintro ⟨f_active, f_epoch, a_dataNodeDown, a_journalDown, a_masterDown, a_inTouch, a_promise, a_base, a_logLength, a_logEpoch, a_logKind, a_logA, a_logB, a_logC, a_inodeState, a_inodePlace, a_inodeClient, a_closeUnits, a_rowLength, a_rowBlock, a_blockStamp, a_replicaHeld, a_replicaStamp, a_unitCount, a_unitValue⟩ h1 h2 h3
  refine ym_init (fun v m1 m2 => ⟨qt_t0, _, _, h1, h2, h3, m1, m2, qt_iv0, ⟨by decide, by decide, fun _ _ => Nat.le_refl _, fun _ _ _ _ => Or.inl rfl, fun _ _ => ⟨fun k hk => absurd hk (Nat.not_lt_zero _), Nat.le_refl _, Nat.zero_le _, Nat.zero_le _⟩, fun h => absurd h (by decide)⟩, ⟨fun _ _ => Nat.zero_le _, fun _ _ => Nat.zero_le _⟩⟩)
end
section
/-! a block is renewed -/
theorem sx_Dc {nu : Nat → Bool} {st un st' un' : Nat → Nat} {ua : Nat → Int32} {u : SX} (h : sx_D (nu, st, un, ua) u) (h1 : ∀ c, c < 80 → st c = st' c) (h2 : ∀ c, c < 80 → un c = un' c) : sx_D (nu, st', un', ua) u := by
  obtain ⟨f_active, f_epoch, a_dataNodeDown, a_journalDown, a_masterDown, a_inTouch, a_promise, a_base, a_logLength, a_logEpoch, a_logKind, a_logA, a_logB, a_logC, a_inodeState, a_inodePlace, a_inodeClient, a_closeUnits, a_rowLength, a_rowBlock, a_blockStamp, a_replicaHeld, a_replicaStamp, a_unitCount, a_unitValue⟩ := u
  obtain ⟨d1, d2, d3, d4, d5⟩ := h
  refine ⟨d1, fun c hc => ?_, fun c hc => ?_, fun c hc => ?_, d5⟩
  · rw [← h1 c hc]; exact d2 c hc
  · rw [← h1 c hc]; exact d3 c hc
  · rw [← h2 c hc]; exact d4 c hc
theorem sy_Dc {nu : Nat → Bool} {st un st' un' : Nat → Nat} {ua : Nat → Int32} {v : SY} (h : sy_D (nu, st, un, ua) v) (h1 : ∀ c, c < 80 → st c = st' c) (h2 : ∀ c, c < 80 → un c = un' c) : sy_D (nu, st', un', ua) v := by
  obtain ⟨f_active, f_epoch, a_nodeUp, a_journalUp, a_masterUp, a_touch, a_log, a_many, a_promise, a_base, a_stamp, a_units, a_unit, a_sort, a_placeOf, a_client, a_rowLength, a_row, a_closedWith, a_stampOf⟩ := v
  obtain ⟨d1, d2, d3, d4⟩ := h
  refine ⟨d1, fun c hc => ?_, fun c hc => ?_, d4⟩
  · rw [← h1 c hc]; exact d2 c hc
  · rw [← h2 c hc]; exact d3 c hc
/-- those of f below d -/
def rd_b (f : Nat → Bool) (d e : Nat) : Bool := f e && decide (e < d)
theorem rd_b5 {f : Nat → Bool} {e : Nat} (h : e < 5) : rd_b f 5 e = f e := by unfold rd_b; simp [h]
theorem rd_b0' {f : Nat → Bool} {e : Nat} : rd_b f 0 e = false := by unfold rd_b; simp
theorem rd_bF {f : Nat → Bool} {d e : Nat} (h : f d = false) : rd_b f (d + 1) e = rd_b f d e := by
  unfold rd_b
  by_cases z : e = d
  · subst z; rw [h]; rfl
  · congr 1; exact decide_eq_decide.mpr (by omega)
theorem rd_bT {f : Nat → Bool} {d e : Nat} (h : f d = true) : rd_b f (d + 1) e = (rd_b f d e || e == d) := by
  unfold rd_b
  by_cases z : e = d
  · subst z; rw [h]; simp
  · have e1 : (e == d) = false := by simpa using z
    rw [e1, Bool.or_false]
    congr 1; exact decide_eq_decide.mpr (by omega)
theorem rd_setT {x : Nat} {f : Nat → Bool} {b : Nat} {g : Nat → Nat} {d c : Nat} (hb : b < 16) (hc : c < 80) (h : f d = true) : rd_set x (rd_b f (d + 1)) b g c = if c = 16 * d + b then x else rd_set x (rd_b f d) b g c := by
  rw [rd_setC (f' := fun y => rd_b f d y || y == d) hc (fun e _ => rd_bT h)]
  exact rd_setS hb
theorem rd_setF {x : Nat} {f : Nat → Bool} {b : Nat} {g : Nat → Nat} {d c : Nat} (hc : c < 80) (h : f d = false) : rd_set x (rd_b f (d + 1)) b g c = rd_set x (rd_b f d) b g c := rd_setC hc (fun e _ => rd_bF h)
theorem ym_tellL {k : Nat} {L : lj_L} {T : qt_T} {nu : Nat → Bool} {st un : Nat → Nat} {ua : Nat → Int32} {v : SY} (hiv : lj_iv k L T) (hL : sy_L L v) (hD : sy_D (nu, st, un, ua) v) {post : SY → Prop} (hp : ∀ v', (0 < lj_ac L → sy_T T v') → sy_L L v' → sy_D (nu, st, un, ua) v' → post v') : wpY_tell post v := by
  obtain ⟨mu, ju, ac, ep, to, pr, ba, le, lg⟩ := L
  refine ym_tell hL hD (fun j hj => ⟨(hiv.2.2.2.2.1 j hj).1, (hiv.2.2.2.2.1 j hj).2.2.2⟩) (fun v' g1 g2 g3 => hp v' (fun ha => ?_) g2 g3)
  rw [(hiv.2.2.2.2.2 ha).2.2]; exact g1
section
variable {T : qt_T} {mu ju : Nat → Bool} {ac ep : Nat} {to : Nat → Bool} {pr ba le : Nat → Nat} {lg : Nat → Nat → qt_R} {nu : Nat → Bool} {st un : Nat → Nat} {ua : Nat → Int32}
theorem qt_okStamp {b : Nat} (he : ep ≤ 512) (hb : b < 16) : qt_ok T (ep, 2, b, 0, 1) := ⟨he, Or.inr (Or.inr (Or.inl ⟨rfl, hb, rfl, rfl⟩))⟩
/-- the replicas behind a renewal -/
def rd_rn (D : rd_D) (f : Nat → Bool) (b s l : Nat) : rd_D := match D with | (nu, st, un, ua) => (nu, rd_set (s + 1) f b st, rd_set l f b un, ua)
theorem xm_renew {k : Nat} {u : SX} (h : sx_T T u) (hI : qt_iv T) (hL : sx_L (mu, ju, ac, ep, to, pr, ba, le, lg) u) (hD : sx_D (nu, st, un, ua) u) (hb : rd_bd (nu, st, un, ua)) (hac : 0 < ac) (hiv : lj_iv k (mu, ju, ac, ep, to, pr, ba, le, lg) T) (he : ep ≤ 512) (hrm : lj_rm (mu, ju, ac, ep, to, pr, ba, le, lg) 1) {post : Int32 → SX → Prop} {b l : Nat} (hb16 : b < 16) (hfw : rd_fw (rd_g nu st b (qt_sp T b)) un b 5 = l + 1)
    (h1 : lj_kept (mu, ju, ac, ep, to, pr, ba, le, lg) = true → ∀ u', sx_T (qt_ap T (ep, 2, b, 0, 1) (le (lj_src to))) u' → sx_L (lj_wr (mu, ju, ac, ep, to, pr, ba, le, lg) 2 b 0 1) u' → sx_D (rd_rn (nu, st, un, ua) (rd_g nu st b (qt_sp T b)) b (2048 * ep + le (lj_src to)) l) u' → post 1 u')
    (h0 : lj_kept (mu, ju, ac, ep, to, pr, ba, le, lg) = false → ∀ u', sx_T T u' → sx_L (lj_wr (mu, ju, ac, ep, to, pr, ba, le, lg) 2 b 0 1) u' → sx_D (rd_rn (nu, st, un, ua) (rd_g nu st b (qt_sp T b)) b (2048 * ep + le (lj_src to)) l) u' → post 0 u') : wpX_renewBlock post u (nI b) := by
  obtain ⟨f_active, f_epoch, a_dataNodeDown, a_journalDown, a_masterDown, a_inTouch, a_promise, a_base, a_logLength, a_logEpoch, a_logKind, a_logA, a_logB, a_logC, a_inodeState, a_inodePlace, a_inodeClient, a_closeUnits, a_rowLength, a_rowBlock, a_blockStamp, a_replicaHeld, a_replicaStamp, a_unitCount, a_unitValue⟩ := u
  unfold wpX_renewBlock
  have h2 := (hiv.2.2.2.2.2 hac).1
  refine xm_goodNodes (u := (f_active, f_epoch, a_dataNodeDown, a_journalDown, a_masterDown, a_inTouch, a_promise, a_base, a_logLength, a_logEpoch, a_logKind, a_logA, a_logB, a_logC, a_inodeState, a_inodePlace, a_inodeClient, a_closeUnits, a_rowLength, a_rowBlock, a_blockStamp, a_replicaHeld, a_replicaStamp, a_unitCount, a_unitValue)) h hI hD hb hb16 (xm_fewestUnits (u := (f_active, f_epoch, a_dataNodeDown, a_journalDown, a_masterDown, a_inTouch, a_promise, a_base, a_logLength, a_logEpoch, a_logKind, a_logA, a_logB, a_logC, a_inodeState, a_inodePlace, a_inodeClient, a_closeUnits, a_rowLength, a_rowBlock, a_blockStamp, a_replicaHeld, a_replicaStamp, a_unitCount, a_unitValue)) h hI hD hb hb16 (xm_nextStamp (u := (f_active, f_epoch, a_dataNodeDown, a_journalDown, a_masterDown, a_inTouch, a_promise, a_base, a_logLength, a_logEpoch, a_logKind, a_logA, a_logB, a_logC, a_inodeState, a_inodePlace, a_inodeClient, a_closeUnits, a_rowLength, a_rowBlock, a_blockStamp, a_replicaHeld, a_replicaStamp, a_unitCount, a_unitValue)) hL h2 ?_))
  rw [hfw, qt_ms]
  have hg0 : ∀ d, d < 5 → rd_g nu st b (qt_sp T b) d = true → st (16 * d + b) ≠ 0 := by
    intro d _ hg
    obtain ⟨g1, g2, g3⟩ := rd_gI.mp hg
    omega
  generalize rd_g nu st b (qt_sp T b) = f at h1 h0 hg0 hfw
  generalize hs : 2048 * ep + le (lj_src to) = s at h1 h0
  have h' : qt_ag True T a_inodeState a_inodePlace a_inodeClient a_closeUnits a_rowLength a_rowBlock a_blockStamp := h
  obtain ⟨l1, l2, l3, l4, l5, l6, l7, l8, l9⟩ := hL
  obtain ⟨d1, d2, d3, d4, d5⟩ := hD
  have key : ∀ k n d, d + k = 5 → k < n → ∀ aS aU : Nat → Int32, (∀ c, c < 80 → rd_set (s + 1) (rd_b f d) b st c ≠ 0 → aS c = nI (rd_set (s + 1) (rd_b f d) b st c - 1)) → (∀ c, c < 80 → aU c = nI (rd_set l (rd_b f d) b un c)) → wX_renewBlock_21 post (nI b) (nI (rd_mk f 5)) (nI l) (nI s) f_active f_epoch n (nI d) a_dataNodeDown a_journalDown a_masterDown a_inTouch a_promise a_base a_logLength a_logEpoch a_logKind a_logA a_logB a_logC a_inodeState a_inodePlace a_inodeClient a_closeUnits a_rowLength a_rowBlock a_blockStamp a_replicaHeld aS aU a_unitValue := by
    intro k
    induction k with
    | zero =>
      intro n d hd hn aS aU HS HU
      obtain ⟨n, rfl⟩ : ∃ n', n = n' + 1 := ⟨n - 1, by omega⟩
      have e : d = 5 := by omega
      subst e
      have hDn : sx_D (rd_rn (nu, st, un, ua) f b s l) (f_active, f_epoch, a_dataNodeDown, a_journalDown, a_masterDown, a_inTouch, a_promise, a_base, a_logLength, a_logEpoch, a_logKind, a_logA, a_logB, a_logC, a_inodeState, a_inodePlace, a_inodeClient, a_closeUnits, a_rowLength, a_rowBlock, a_blockStamp, a_replicaHeld, aS, aU, a_unitValue) := by
        refine sx_Dc (st := rd_set (s + 1) (rd_b f 5) b st) (un := rd_set l (rd_b f 5) b un) ⟨d1, fun c hc => ?_, HS, HU, d5⟩ (fun c hc => rd_setC hc (fun e he => rd_b5 he)) (fun c hc => rd_setC hc (fun e he => rd_b5 he))
        rw [d2 c hc, rd_setC (f' := f) hc (fun e he => rd_b5 he)]
        by_cases z : c % 16 = b ∧ f (c / 16) = true
        · have := hg0 (c / 16) (by omega) z.2
          rw [show 16 * (c / 16) + b = c by omega] at this
          rw [if_neg this]
          unfold rd_set
          rw [if_pos z, if_neg (by omega)]
        · unfold rd_set
          rw [if_neg z]
      refine br_t lb_t (xm_writeRecord1 (u := (f_active, f_epoch, a_dataNodeDown, a_journalDown, a_masterDown, a_inTouch, a_promise, a_base, a_logLength, a_logEpoch, a_logKind, a_logA, a_logB, a_logC, a_inodeState, a_inodePlace, a_inodeClient, a_closeUnits, a_rowLength, a_rowBlock, a_blockStamp, a_replicaHeld, aS, aU, a_unitValue)) (q := 2) (b := 0) h' hI ⟨l1, l2, l3, l4, l5, l6, l7, l8, l9⟩ hDn hac hiv hrm (qt_okStamp he hb16) (fun hk => ?_) (fun hk => ?_))
      · rintro ⟨f_active, f_epoch, a_dataNodeDown, a_journalDown, a_masterDown, a_inTouch, a_promise, a_base, a_logLength, a_logEpoch, a_logKind, a_logA, a_logB, a_logC, a_inodeState, a_inodePlace, a_inodeClient, a_closeUnits, a_rowLength, a_rowBlock, a_blockStamp, a_replicaHeld, a_replicaStamp, a_unitCount, a_unitValue⟩ g1 g2 g3
        exact ⟨rfl, h1 hk _ g1 g2 g3⟩
      · rintro ⟨f_active, f_epoch, a_dataNodeDown, a_journalDown, a_masterDown, a_inTouch, a_promise, a_base, a_logLength, a_logEpoch, a_logKind, a_logA, a_logB, a_logC, a_inodeState, a_inodePlace, a_inodeClient, a_closeUnits, a_rowLength, a_rowBlock, a_blockStamp, a_replicaHeld, a_replicaStamp, a_unitCount, a_unitValue⟩ g1 g2 g3
        exact ⟨rfl, h0 hk _ g1 g2 g3⟩
    | succ k ih =>
      intro n d hd hn aS aU HS HU
      obtain ⟨n, rfl⟩ : ∃ n', n = n' + 1 := ⟨n - 1, by omega⟩
      have hd5 : d < 5 := by omega
      have hc : 16 * d + b < 80 := by omega
      have hv := vp_in_nI hc (by decide : 80 < 2 ^ 31)
      have hcc : (nI (16 * d + b)).toNatClampNeg = 16 * d + b := nI_clamp (by omega)
      refine br_f (lb_f hd5) (xm_isIn hd5 (fun z => br_f bo_1 (nm_r (mu_r d 16 b) ⟨hv, nm_e ⟨hv, nm_e (nm_r (nI_1 d) ?_)⟩⟩)) (fun z => br_t rfl (nm_r (nI_1 d) (ih n (d + 1) (by omega) (by omega) aS aU (fun c hc => ?_) (fun c hc => ?_)))))
      · rw [hcc]
        refine ih n (d + 1) (by omega) (by omega) _ _ (fun c hc => ?_) (fun c hc => ?_)
        · rw [rd_setT hb16 hc z]
          by_cases y : c = 16 * d + b
          · subst y; intro _; rw [pk_us, if_pos rfl]; rfl
          · rw [pk_un y, if_neg y]; exact HS c hc
        · rw [rd_setT hb16 hc z]
          by_cases y : c = 16 * d + b
          · subst y; rw [pk_us, if_pos rfl]
          · rw [pk_un y, if_neg y]; exact HU c hc
      · rw [rd_setF hc z]; exact HS c hc
      · rw [rd_setF hc z]; exact HU c hc
  refine ⟨6, key 5 6 0 (by omega) (by omega) _ _ (fun c hc => ?_) (fun c hc => ?_)⟩
  · rw [rd_setC (f' := fun _ => false) hc (fun e _ => rd_b0'), rd_set0]; exact d3 c hc
  · rw [rd_setC (f' := fun _ => false) hc (fun e _ => rd_b0'), rd_set0]; exact d4 c hc
theorem ym_renew {k : Nat} {v : SY} (h : sy_T T v) (hI : qt_iv T) (hL : sy_L (mu, ju, ac, ep, to, pr, ba, le, lg) v) (hD : sy_D (nu, st, un, ua) v) (hb : rd_bd (nu, st, un, ua)) (hac : 0 < ac) (hiv : lj_iv k (mu, ju, ac, ep, to, pr, ba, le, lg) T) (he : ep ≤ 512) (hrm : lj_rm (mu, ju, ac, ep, to, pr, ba, le, lg) 1) {post : Int32 → SY → Prop} {b l : Nat} (hb16 : b < 16) (hin : qt_in (qt_rl T) (qt_ro T) b) (hfw : rd_fw (rd_g nu st b (qt_sp T b)) un b 5 = l + 1)
    (h1 : lj_kept (mu, ju, ac, ep, to, pr, ba, le, lg) = true → ∀ v', sy_T (qt_ap T (ep, 2, b, 0, 1) (le (lj_src to))) v' → sy_L (lj_wr (mu, ju, ac, ep, to, pr, ba, le, lg) 2 b 0 1) v' → sy_D (rd_rn (nu, st, un, ua) (rd_g nu st b (qt_sp T b)) b (2048 * ep + le (lj_src to)) l) v' → post 1 v')
    (h0 : lj_kept (mu, ju, ac, ep, to, pr, ba, le, lg) = false → ∀ v', sy_L (lj_wr (mu, ju, ac, ep, to, pr, ba, le, lg) 2 b 0 1) v' → sy_D (rd_rn (nu, st, un, ua) (rd_g nu st b (qt_sp T b)) b (2048 * ep + le (lj_src to)) l) v' → post 0 v') : wpY_renew post v (nI b) := by
  obtain ⟨f_active, f_epoch, a_nodeUp, a_journalUp, a_masterUp, a_touch, a_log, a_many, a_promise, a_base, a_stamp, a_units, a_unit, a_sort, a_placeOf, a_client, a_rowLength, a_row, a_closedWith, a_stampOf⟩ := v
  unfold wpY_renew
  have W := lj_wrI (q := 2) (a := b) (b := 0) (c := 1) hiv hac hrm (qt_okStamp he hb16)
  refine ym_goodOnes (v := (f_active, f_epoch, a_nodeUp, a_journalUp, a_masterUp, a_touch, a_log, a_many, a_promise, a_base, a_stamp, a_units, a_unit, a_sort, a_placeOf, a_client, a_rowLength, a_row, a_closedWith, a_stampOf)) h hI hD hb hb16 hin (ym_bound0 (v := (f_active, f_epoch, a_nodeUp, a_journalUp, a_masterUp, a_touch, a_log, a_many, a_promise, a_base, a_stamp, a_units, a_unit, a_sort, a_placeOf, a_client, a_rowLength, a_row, a_closedWith, a_stampOf)) h hI hD hb hb16 hin (ym_nextStamp (v := (f_active, f_epoch, a_nodeUp, a_journalUp, a_masterUp, a_touch, a_log, a_many, a_promise, a_base, a_stamp, a_units, a_unit, a_sort, a_placeOf, a_client, a_rowLength, a_row, a_closedWith, a_stampOf)) hL ?_))
  rw [hfw, qt_ms]
  generalize rd_g nu st b (qt_sp T b) = f at h1 h0 hfw
  generalize hs : 2048 * ep + le (lj_src to) = s at h1 h0
  obtain ⟨l1, l2, l3, l4, l5, l6, l7, l8, l9⟩ := hL
  obtain ⟨d1, d2, d3, d4⟩ := hD
  have key : ∀ k n d, d + k = 5 → k < n → ∀ aS aU : Nat → Int32, (∀ c, c < 80 → aS c = qt_m (rd_set (s + 1) (rd_b f d) b st c)) → (∀ c, c < 80 → aU c = nI (rd_set l (rd_b f d) b un c)) → wY_renew_22 post (nI b) (nI (rd_mk f 5)) (nI l) (nI s) f_active f_epoch n (nI d) a_nodeUp a_journalUp a_masterUp a_touch a_log a_many a_promise a_base aS aU a_unit a_sort a_placeOf a_client a_rowLength a_row a_closedWith a_stampOf := by
    intro k
    induction k with
    | zero =>
      intro n d hd hn aS aU HS HU
      obtain ⟨n, rfl⟩ : ∃ n', n = n' + 1 := ⟨n - 1, by omega⟩
      have e : d = 5 := by omega
      subst e
      have hDn : sy_D (rd_rn (nu, st, un, ua) f b s l) (f_active, f_epoch, a_nodeUp, a_journalUp, a_masterUp, a_touch, a_log, a_many, a_promise, a_base, aS, aU, a_unit, a_sort, a_placeOf, a_client, a_rowLength, a_row, a_closedWith, a_stampOf) := sy_Dc (st := rd_set (s + 1) (rd_b f 5) b st) (un := rd_set l (rd_b f 5) b un) ⟨d1, HS, HU, d4⟩ (fun c hc => rd_setC hc (fun e he => rd_b5 he)) (fun c hc => rd_setC hc (fun e he => rd_b5 he))
      refine br_t lb_t (ym_write1 (v := (f_active, f_epoch, a_nodeUp, a_journalUp, a_masterUp, a_touch, a_log, a_many, a_promise, a_base, aS, aU, a_unit, a_sort, a_placeOf, a_client, a_rowLength, a_row, a_closedWith, a_stampOf)) (q := 2) (b := 0) ⟨l1, l2, l3, l4, l5, l6, l7, l8, l9⟩ hDn (fun j hj => (hiv.2.2.2.2.1 j hj).2.2.2) (qt_rbI he (by decide) hb16 (by decide) (by decide)) (fun hk => ?_) (fun hk => ?_))
      · rintro ⟨f_active, f_epoch, a_nodeUp, a_journalUp, a_masterUp, a_touch, a_log, a_many, a_promise, a_base, a_stamp, a_units, a_unit, a_sort, a_placeOf, a_client, a_rowLength, a_row, a_closedWith, a_stampOf⟩ g2 g3
        rw [if_pos hk] at W
        refine ym_tellL (v := (f_active, f_epoch, a_nodeUp, a_journalUp, a_masterUp, a_touch, a_log, a_many, a_promise, a_base, a_stamp, a_units, a_unit, a_sort, a_placeOf, a_client, a_rowLength, a_row, a_closedWith, a_stampOf)) W g2 g3 ?_
        rintro ⟨f_active, f_epoch, a_nodeUp, a_journalUp, a_masterUp, a_touch, a_log, a_many, a_promise, a_base, a_stamp, a_units, a_unit, a_sort, a_placeOf, a_client, a_rowLength, a_row, a_closedWith, a_stampOf⟩ m1 m2 m3
        refine ⟨rfl, h1 hk _ (m1 ?_) m2 m3⟩
        rw [(lj_wrN (q := 2) (a := b) (b := 0) (c := 1) hiv hac hk).2.1]; exact hac
      · rintro ⟨f_active, f_epoch, a_nodeUp, a_journalUp, a_masterUp, a_touch, a_log, a_many, a_promise, a_base, a_stamp, a_units, a_unit, a_sort, a_placeOf, a_client, a_rowLength, a_row, a_closedWith, a_stampOf⟩ g2 g3
        rw [if_neg (by rw [hk]; decide)] at W
        refine ym_tellL (v := (f_active, f_epoch, a_nodeUp, a_journalUp, a_masterUp, a_touch, a_log, a_many, a_promise, a_base, a_stamp, a_units, a_unit, a_sort, a_placeOf, a_client, a_rowLength, a_row, a_closedWith, a_stampOf)) W g2 g3 ?_
        rintro ⟨f_active, f_epoch, a_nodeUp, a_journalUp, a_masterUp, a_touch, a_log, a_many, a_promise, a_base, a_stamp, a_units, a_unit, a_sort, a_placeOf, a_client, a_rowLength, a_row, a_closedWith, a_stampOf⟩ m1 m2 m3
        exact ⟨rfl, h0 hk _ m2 m3⟩
    | succ k ih =>
      intro n d hd hn aS aU HS HU
      obtain ⟨n, rfl⟩ : ∃ n', n = n' + 1 := ⟨n - 1, by omega⟩
      have hd5 : d < 5 := by omega
      have hc : 16 * d + b < 80 := by omega
      have hv := vp_in_nI hc (by decide : 80 < 2 ^ 31)
      have hcc : (nI (16 * d + b)).toNatClampNeg = 16 * d + b := nI_clamp (by omega)
      refine br_f (lb_f hd5) (cd_if (rd_b0 f hd5) (fun z => nm_r (nI_1 d) (ih n (d + 1) (by omega) (by omega) aS aU (fun c hc => ?_) (fun c hc => ?_))) (fun z => ?_))
      · rw [rd_setF hc z]; exact HS c hc
      · rw [rd_setF hc z]; exact HU c hc
      · have z' : f d = true := by simpa using z
        rw [show 16 * nI d + nI b = nI (16 * d + b) from mu_l d 16 b]
        refine ⟨hv, nm_e ⟨hv, nm_e (nm_r (nI_1 d) ?_)⟩⟩
        rw [hcc]
        refine ih n (d + 1) (by omega) (by omega) _ _ (fun c hc => ?_) (fun c hc => ?_)
        · rw [rd_setT hb16 hc z']
          by_cases y : c = 16 * d + b
          · subst y; rw [pk_us, if_pos rfl, qt_ms]
          · rw [pk_un y, if_neg y]; exact HS c hc
        · rw [rd_setT hb16 hc z']
          by_cases y : c = 16 * d + b
          · subst y; rw [pk_us, if_pos rfl]
          · rw [pk_un y, if_neg y]; exact HU c hc
  refine ⟨6, key 5 6 0 (by omega) (by omega) _ _ (fun c hc => ?_) (fun c hc => ?_)⟩
  · rw [rd_setC (f' := fun _ => false) hc (fun e _ => rd_b0'), rd_set0]; exact d2 c hc
  · rw [rd_setC (f' := fun _ => false) hc (fun e _ => rd_b0'), rd_set0]; exact d3 c hc
end
end
section
/-! close -/
theorem rd_fwA {f : Nat → Bool} {un : Nat → Nat} {b : Nat} : ∀ {n : Nat}, 0 < rd_fw f un b n → ∃ d, d < n ∧ f d = true ∧ rd_fw f un b n = un (16 * d + b) + 1 := by
  intro n
  induction n with
  | zero => intro h; exact absurd h (Nat.not_lt_zero _)
  | succ n ih =>
    rw [rd_fwS]
    split
    · rename_i h
      intro _
      exact ⟨n, by omega, h.1, rfl⟩
    · intro h
      obtain ⟨d, h1, h2, h3⟩ := ih h
      exact ⟨d, by omega, h2, h3⟩
theorem rd_fwK {f : Nat → Bool} {un : Nat → Nat} {b l : Nat} (h : ∀ d, d < 5 → f d = true → un (16 * d + b) = l) (hx : ∃ d, d < 5 ∧ f d = true) : rd_fw f un b 5 = l + 1 := by
  obtain ⟨d, hd, hf⟩ := hx
  obtain ⟨e, he, hfe, hw⟩ := rd_fwA (un := un) (b := b) (rd_fwL hd hf).1
  rw [hw, h e he hfe]
theorem qt_ap2 {T : qt_T} {e a b c k : Nat} : qt_so (qt_ap T (e, 2, a, b, c) k) = qt_so T ∧ qt_rl (qt_ap T (e, 2, a, b, c) k) = qt_rl T ∧ qt_ro (qt_ap T (e, 2, a, b, c) k) = qt_ro T ∧ qt_sp (qt_ap T (e, 2, a, b, c) k) = qt_u (qt_sp T) a (2048 * e + k) := by
  obtain ⟨so, pl, cl, cw, rl, ro, sp⟩ := T
  exact ⟨rfl, rfl, rfl, rfl⟩
def oc (k : Nat) (T : qt_T) (L : lj_L) (D : rd_D) (X : (Int32 → SX → Prop) → SX → Prop) (Y : (Int32 → SY → Prop) → SY → Prop) : Prop :=
  ∃ (r : Int32) (T' : qt_T) (L' : lj_L) (D' : rd_D), qt_iv T' ∧ lj_iv k L' T' ∧ rd_iv L' D'
    ∧ (∀ post u, sx_T T u → sx_L L u → sx_D D u → (∀ u', sx_T T' u' → sx_L L' u' → sx_D D' u' → post r u') → X post u)
    ∧ (∀ post v, sy_T T v → sy_L L v → sy_D D v → (∀ v', sy_L L' v' → sy_D D' v' → post r v') → Y post v)
theorem oc_c {k : Nat} {T : qt_T} {L : lj_L} {D : rd_D} {X X' : (Int32 → SX → Prop) → SX → Prop} {Y Y' : (Int32 → SY → Prop) → SY → Prop} (h : oc k T L D X Y) (hX : ∀ post u, sx_T T u → sx_L L u → sx_D D u → X post u → X' post u) (hY : ∀ post v, sy_T T v → sy_L L v → sy_D D v → Y post v → Y' post v) : oc k T L D X' Y' := by
  obtain ⟨r, T', L', D', a1, a2, a3, a4, a5⟩ := h
  exact ⟨r, T', L', D', a1, a2, a3, fun post u b1 b2 b3 b4 => hX post u b1 b2 b3 (a4 post u b1 b2 b3 b4), fun post v b1 b2 b3 b4 => hY post v b1 b2 b3 (a5 post v b1 b2 b3 b4)⟩
/-- nothing changes -/
theorem oc_n {k : Nat} {T : qt_T} {L : lj_L} {D : rd_D} {X : (Int32 → SX → Prop) → SX → Prop} {Y : (Int32 → SY → Prop) → SY → Prop} (r : Int32) (hI : qt_iv T) (hiv : lj_iv k L T) (hD : rd_iv L D) (hX : ∀ post u, sx_T T u → sx_L L u → sx_D D u → post r u → X post u) (hY : ∀ post v, sy_T T v → sy_L L v → sy_D D v → post r v → Y post v) : oc k T L D X Y :=
  ⟨r, T, L, D, hI, hiv, hD, fun post u b1 b2 b3 b4 => hX post u b1 b2 b3 (b4 u b1 b2 b3), fun post v b1 b2 b3 b4 => hY post v b1 b2 b3 (b4 v b2 b3)⟩
theorem xm_lackG {k : Nat} {T : qt_T} {L : lj_L} {u : SX} (hL : sx_L L u) (hiv : lj_iv k L T) {post : Int32 → Prop} {R : Nat} (hR : R ≤ 2) (h1 : ¬ lj_rm L R → post 1) (h0 : lj_rm L R → post 0) : wpX_logsLackRoom post u (nI R) := by
  obtain ⟨mu, ju, ac, ep, to, pr, ba, le, lg⟩ := L
  exact xm_logsLackRoom hL (fun j hj => ⟨(hiv.2.2.2.2.1 j hj).2.1, (hiv.2.2.2.2.1 j hj).2.2.2⟩) hR h1 h0
theorem ym_manyG {k : Nat} {T : qt_T} {L : lj_L} {v : SY} (hL : sy_L L v) (hiv : lj_iv k L T) {post : Int32 → Prop} {R : Nat} (hR : R ≤ 2) (h1 : ¬ lj_rm L R → post 1) (h0 : lj_rm L R → post 0) : wpY_tooMany post v (nI R) := by
  obtain ⟨mu, ju, ac, ep, to, pr, ba, le, lg⟩ := L
  exact ym_tooMany hL (fun j hj => ⟨(hiv.2.2.2.2.1 j hj).2.1, (hiv.2.2.2.2.1 j hj).2.2.2⟩) hR h1 h0
theorem xm_writeG {k : Nat} {T : qt_T} {L : lj_L} {D : rd_D} {u : SX} (h : sx_T T u) (hI : qt_iv T) (hL : sx_L L u) (hD : sx_D D u) (hac : 0 < lj_ac L) (hiv : lj_iv k L T) (hrm : lj_rm L 1) {q a b : Nat} (ho : qt_ok T (lj_ep L, q, a, b, 1)) {post : Int32 → SX → Prop}
    (h1 : lj_kept L = true → ∀ u', sx_T (qt_ap T (lj_ep L, q, a, b, 1) (lj_len L)) u' → sx_L (lj_wr L q a b 1) u' → sx_D D u' → post 1 u')
    (h0 : lj_kept L = false → ∀ u', sx_T T u' → sx_L (lj_wr L q a b 1) u' → sx_D D u' → post 0 u') : wpX_writeRecord post u (nI q) (nI a) (nI b) 0 := by
  obtain ⟨mu, ju, ac, ep, to, pr, ba, le, lg⟩ := L
  obtain ⟨nu, st, un, ua⟩ := D
  exact xm_writeRecord1 h hI hL hD hac hiv hrm ho h1 h0
theorem ym_writeG {k : Nat} {T : qt_T} {L : lj_L} {D : rd_D} {v : SY} (hL : sy_L L v) (hD : sy_D D v) (hiv : lj_iv k L T) {q a b : Nat} (ho : qt_ok T (lj_ep L, q, a, b, 1)) {post : Int32 → SY → Prop}
    (h1 : lj_kept L = true → ∀ v', sy_L (lj_wr L q a b 1) v' → sy_D D v' → post 1 v')
    (h0 : lj_kept L = false → ∀ v', sy_L (lj_wr L q a b 1) v' → sy_D D v' → post 0 v') : wpY_write post v (nI q) (nI a) (nI b) 0 := by
  obtain ⟨mu, ju, ac, ep, to, pr, ba, le, lg⟩ := L
  obtain ⟨nu, st, un, ua⟩ := D
  exact ym_write1 hL hD (fun j hj => (hiv.2.2.2.2.1 j hj).2.2.2) (qt_okB ho) h1 h0
theorem xm_renewG {k : Nat} {T : qt_T} {L : lj_L} {nu : Nat → Bool} {st un : Nat → Nat} {ua : Nat → Int32} {u : SX} (h : sx_T T u) (hI : qt_iv T) (hL : sx_L L u) (hD : sx_D (nu, st, un, ua) u) (hb : rd_bd (nu, st, un, ua)) (hac : 0 < lj_ac L) (hiv : lj_iv k L T) (he : lj_ep L ≤ 512) (hrm : lj_rm L 1) {post : Int32 → SX → Prop} {b l : Nat} (hb16 : b < 16) (hfw : rd_fw (rd_g nu st b (qt_sp T b)) un b 5 = l + 1)
    (h1 : lj_kept L = true → ∀ u', sx_T (qt_ap T (lj_ep L, 2, b, 0, 1) (lj_len L)) u' → sx_L (lj_wr L 2 b 0 1) u' → sx_D (rd_rn (nu, st, un, ua) (rd_g nu st b (qt_sp T b)) b (2048 * lj_ep L + lj_len L) l) u' → post 1 u')
    (h0 : lj_kept L = false → ∀ u', sx_T T u' → sx_L (lj_wr L 2 b 0 1) u' → sx_D (rd_rn (nu, st, un, ua) (rd_g nu st b (qt_sp T b)) b (2048 * lj_ep L + lj_len L) l) u' → post 0 u') : wpX_renewBlock post u (nI b) := by
  obtain ⟨mu, ju, ac, ep, to, pr, ba, le, lg⟩ := L
  exact xm_renew h hI hL hD hb hac hiv he hrm hb16 hfw h1 h0
theorem ym_renewG {k : Nat} {T : qt_T} {L : lj_L} {nu : Nat → Bool} {st un : Nat → Nat} {ua : Nat → Int32} {v : SY} (h : sy_T T v) (hI : qt_iv T) (hL : sy_L L v) (hD : sy_D (nu, st, un, ua) v) (hb : rd_bd (nu, st, un, ua)) (hac : 0 < lj_ac L) (hiv : lj_iv k L T) (he : lj_ep L ≤ 512) (hrm : lj_rm L 1) {post : Int32 → SY → Prop} {b l : Nat} (hb16 : b < 16) (hin : qt_in (qt_rl T) (qt_ro T) b) (hfw : rd_fw (rd_g nu st b (qt_sp T b)) un b 5 = l + 1)
    (h1 : lj_kept L = true → ∀ v', sy_T (qt_ap T (lj_ep L, 2, b, 0, 1) (lj_len L)) v' → sy_L (lj_wr L 2 b 0 1) v' → sy_D (rd_rn (nu, st, un, ua) (rd_g nu st b (qt_sp T b)) b (2048 * lj_ep L + lj_len L) l) v' → post 1 v')
    (h0 : lj_kept L = false → ∀ v', sy_L (lj_wr L 2 b 0 1) v' → sy_D (rd_rn (nu, st, un, ua) (rd_g nu st b (qt_sp T b)) b (2048 * lj_ep L + lj_len L) l) v' → post 0 v') : wpY_renew post v (nI b) := by
  obtain ⟨mu, ju, ac, ep, to, pr, ba, le, lg⟩ := L
  exact ym_renew h hI hL hD hb hac hiv he hrm hb16 hin hfw h1 h0
/-- what a renewal leaves behind -/
theorem rd_rnG {k : Nat} {T : qt_T} {L : lj_L} {nu : Nat → Bool} {st un : Nat → Nat} {ua : Nat → Int32} (hI : qt_iv T) (hiv : lj_iv k L T) (hD : rd_iv L (nu, st, un, ua)) (hac : 0 < lj_ac L) (he : lj_ep L ≤ 512) (hrm : lj_rm L 1) {b l : Nat} (hb16 : b < 16) (hl : l ≤ 8) (hx : ∃ d, d < 5 ∧ rd_g nu st b (qt_sp T b) d = true) :
    (∀ c, c < 80 → rd_set (2048 * lj_ep L + lj_len L + 1) (rd_g nu st b (qt_sp T b)) b st c ≤ 2048 * lj_ep L + lj_len L + 1) ∧ (∀ c, c < 80 → rd_set l (rd_g nu st b (qt_sp T b)) b un c ≤ 8)
    ∧ (∀ d, d < 5 → rd_g nu (rd_set (2048 * lj_ep L + lj_len L + 1) (rd_g nu st b (qt_sp T b)) b st) b (2048 * lj_ep L + lj_len L) d = rd_g nu st b (qt_sp T b) d)
    ∧ (∀ d, d < 5 → rd_g nu st b (qt_sp T b) d = true → rd_set l (rd_g nu st b (qt_sp T b)) b un (16 * d + b) = l) := by
  have hs := rd_ivS hD hac
  refine ⟨fun c hc => rd_setB (Nat.le_refl _) (by have := hs c hc; omega), fun c hc => rd_setB hl (hD.2 c hc), ?_, ?_⟩
  · exact rd_new hb16 hs (fun d _ hg => (rd_gI.mp hg).2.1) hx (fun d _ => rd_setA hb16)
  · intro d _ hg
    rw [rd_setA hb16, if_pos hg]
theorem cl_end {k : Nat} {T : qt_T} {L : lj_L} {nu : Nat → Bool} {st un : Nat → Nat} {ua : Nat → Int32} {n l : Nat} (hI : qt_iv T) (hiv : lj_iv k L T) (hst : ∀ c, c < 80 → st c ≤ 2048 * lj_ep L + lj_len L + 1) (hun : ∀ c, c < 80 → un c ≤ 8) (hac : 0 < lj_ac L) (he : lj_ep L ≤ 512) (hrm : lj_rm L 1) (hn : n < 12) (hs : qt_so T n = 2) (hl : l ≤ 8) :
    oc k T L (nu, st, un, ua) (fun post u => match u with | (f_active, f_epoch, a_dataNodeDown, a_journalDown, a_masterDown, a_inTouch, a_promise, a_base, a_logLength, a_logEpoch, a_logKind, a_logA, a_logB, a_logC, a_inodeState, a_inodePlace, a_inodeClient, a_closeUnits, a_rowLength, a_rowBlock, a_blockStamp, a_replicaHeld, a_replicaStamp, a_unitCount, a_unitValue) => wX_close_135 post (nI n) (nI l) f_active f_epoch a_dataNodeDown a_journalDown a_masterDown a_inTouch a_promise a_base a_logLength a_logEpoch a_logKind a_logA a_logB a_logC a_inodeState a_inodePlace a_inodeClient a_closeUnits a_rowLength a_rowBlock a_blockStamp a_replicaHeld a_replicaStamp a_unitCount a_unitValue) (fun post v => match v with | (f_active, f_epoch, a_nodeUp, a_journalUp, a_masterUp, a_touch, a_log, a_many, a_promise, a_base, a_stamp, a_units, a_unit, a_sort, a_placeOf, a_client, a_rowLength, a_row, a_closedWith, a_stampOf) => wY_close_156 post (nI n) (nI l) f_active f_epoch a_nodeUp a_journalUp a_masterUp a_touch a_log a_many a_promise a_base a_stamp a_units a_unit a_sort a_placeOf a_client a_rowLength a_row a_closedWith a_stampOf) := by
  have ho : qt_ok T (lj_ep L, 3, n, l, 1) := ⟨he, Or.inr (Or.inr (Or.inr (Or.inl ⟨rfl, hn, hs, hl, rfl⟩)))⟩
  have W := lj_wrI hiv hac hrm ho
  have hlen := lj_rmL hiv hac hrm
  have hR : rd_iv (lj_wr L 3 n l 1) (nu, st, un, ua) := rd_wrI hiv hac hst hun
  cases hk : lj_kept L with
  | true =>
    rw [if_pos hk] at W
    refine ⟨0, _, _, _, qt_ivAp hI ho (by omega), W, hR, ?_, ?_⟩
    · rintro post ⟨f_active, f_epoch, a_dataNodeDown, a_journalDown, a_masterDown, a_inTouch, a_promise, a_base, a_logLength, a_logEpoch, a_logKind, a_logA, a_logB, a_logC, a_inodeState, a_inodePlace, a_inodeClient, a_closeUnits, a_rowLength, a_rowBlock, a_blockStamp, a_replicaHeld, a_replicaStamp, a_unitCount, a_unitValue⟩ h1 h2 h3 hp
      refine xm_writeG (q := 3) h1 hI h2 h3 hac hiv hrm ho (fun _ => ?_) (fun z => absurd (hk.symm.trans z) (by decide))
      rintro ⟨f_active, f_epoch, a_dataNodeDown, a_journalDown, a_masterDown, a_inTouch, a_promise, a_base, a_logLength, a_logEpoch, a_logKind, a_logA, a_logB, a_logC, a_inodeState, a_inodePlace, a_inodeClient, a_closeUnits, a_rowLength, a_rowBlock, a_blockStamp, a_replicaHeld, a_replicaStamp, a_unitCount, a_unitValue⟩ g1 g2 g3
      exact br_f bo_1 (hp _ g1 g2 g3)
    · rintro post ⟨f_active, f_epoch, a_nodeUp, a_journalUp, a_masterUp, a_touch, a_log, a_many, a_promise, a_base, a_stamp, a_units, a_unit, a_sort, a_placeOf, a_client, a_rowLength, a_row, a_closedWith, a_stampOf⟩ h1 h2 h3 hp
      refine ym_writeG (q := 3) h2 h3 hiv ho (fun _ => ?_) (fun z => absurd (hk.symm.trans z) (by decide))
      rintro ⟨f_active, f_epoch, a_nodeUp, a_journalUp, a_masterUp, a_touch, a_log, a_many, a_promise, a_base, a_stamp, a_units, a_unit, a_sort, a_placeOf, a_client, a_rowLength, a_row, a_closedWith, a_stampOf⟩ g2 g3
      exact br_f bo_1 (hp _ g2 g3)
  | false =>
    rw [if_neg (by rw [hk]; decide)] at W
    refine ⟨-3, _, _, _, hI, W, hR, ?_, ?_⟩
    · rintro post ⟨f_active, f_epoch, a_dataNodeDown, a_journalDown, a_masterDown, a_inTouch, a_promise, a_base, a_logLength, a_logEpoch, a_logKind, a_logA, a_logB, a_logC, a_inodeState, a_inodePlace, a_inodeClient, a_closeUnits, a_rowLength, a_rowBlock, a_blockStamp, a_replicaHeld, a_replicaStamp, a_unitCount, a_unitValue⟩ h1 h2 h3 hp
      refine xm_writeG (q := 3) h1 hI h2 h3 hac hiv hrm ho (fun z => absurd (hk.symm.trans z) (by decide)) (fun _ => ?_)
      rintro ⟨f_active, f_epoch, a_dataNodeDown, a_journalDown, a_masterDown, a_inTouch, a_promise, a_base, a_logLength, a_logEpoch, a_logKind, a_logA, a_logB, a_logC, a_inodeState, a_inodePlace, a_inodeClient, a_closeUnits, a_rowLength, a_rowBlock, a_blockStamp, a_replicaHeld, a_replicaStamp, a_unitCount, a_unitValue⟩ g1 g2 g3
      exact br_t rfl (hp _ g1 g2 g3)
    · rintro post ⟨f_active, f_epoch, a_nodeUp, a_journalUp, a_masterUp, a_touch, a_log, a_many, a_promise, a_base, a_stamp, a_units, a_unit, a_sort, a_placeOf, a_client, a_rowLength, a_row, a_closedWith, a_stampOf⟩ h1 h2 h3 hp
      refine ym_writeG (q := 3) h2 h3 hiv ho (fun z => absurd (hk.symm.trans z) (by decide)) (fun _ => ?_)
      rintro ⟨f_active, f_epoch, a_nodeUp, a_journalUp, a_masterUp, a_touch, a_log, a_many, a_promise, a_base, a_stamp, a_units, a_unit, a_sort, a_placeOf, a_client, a_rowLength, a_row, a_closedWith, a_stampOf⟩ g2 g3
      exact br_t rfl (hp _ g2 g3)
theorem cl_mid0 {k : Nat} {T : qt_T} {L : lj_L} {nu : Nat → Bool} {st un : Nat → Nat} {ua : Nat → Int32} {n l : Nat} {x3 : Int32} (hI : qt_iv T) (hiv : lj_iv k L T) (hD : rd_iv L (nu, st, un, ua)) (hb : rd_bd (nu, st, un, ua)) (hac : 0 < lj_ac L) (he : lj_ep L ≤ 512) (hn : n < 12) (hs : qt_so T n = 2) (hl : l ≤ 8) (hx : (x3 = -1 ∧ l = 0) ∨ ∃ b, b < 16 ∧ x3 = nI b ∧ rd_fw (rd_g nu st b (qt_sp T b)) un b 5 = l + 1) :
    oc k T L (nu, st, un, ua) (fun post u => match u with | (f_active, f_epoch, a_dataNodeDown, a_journalDown, a_masterDown, a_inTouch, a_promise, a_base, a_logLength, a_logEpoch, a_logKind, a_logA, a_logB, a_logC, a_inodeState, a_inodePlace, a_inodeClient, a_closeUnits, a_rowLength, a_rowBlock, a_blockStamp, a_replicaHeld, a_replicaStamp, a_unitCount, a_unitValue) => wX_close_85 post (nI n) x3 0 f_active f_epoch a_dataNodeDown a_journalDown a_masterDown a_inTouch a_promise a_base a_logLength a_logEpoch a_logKind a_logA a_logB a_logC a_inodeState a_inodePlace a_inodeClient a_closeUnits a_rowLength a_rowBlock a_blockStamp a_replicaHeld a_replicaStamp a_unitCount a_unitValue) (fun post v => match v with | (f_active, f_epoch, a_nodeUp, a_journalUp, a_masterUp, a_touch, a_log, a_many, a_promise, a_base, a_stamp, a_units, a_unit, a_sort, a_placeOf, a_client, a_rowLength, a_row, a_closedWith, a_stampOf) => wY_close_120 post (nI n) x3 (nI l) 0 f_active f_epoch a_nodeUp a_journalUp a_masterUp a_touch a_log a_many a_promise a_base a_stamp a_units a_unit a_sort a_placeOf a_client a_rowLength a_row a_closedWith a_stampOf) := by
  by_cases hrm : lj_rm L 1
  · have hS := rd_ivS hD hac
    refine oc_c (cl_end hI hiv (fun c hc => by have := hS c hc; omega) hD.2 hac he hrm hn hs hl) ?_ ?_
    · rintro post ⟨f_active, f_epoch, a_dataNodeDown, a_journalDown, a_masterDown, a_inTouch, a_promise, a_base, a_logLength, a_logEpoch, a_logKind, a_logA, a_logB, a_logC, a_inodeState, a_inodePlace, a_inodeClient, a_closeUnits, a_rowLength, a_rowBlock, a_blockStamp, a_replicaHeld, a_replicaStamp, a_unitCount, a_unitValue⟩ h1 h2 h3 hp
      refine br_t rfl (xm_lackG (R := 1) h2 hiv (by decide) (fun z => absurd hrm z) (fun _ => br_t rfl (br_t rfl ?_)))
      rcases hx with ⟨rfl, rfl⟩ | ⟨b, hb16, rfl, hfw⟩
      · exact br_t rfl hp
      · refine br_f (ix_m1 (by omega)) (xm_fewestUnits (u := (f_active, f_epoch, a_dataNodeDown, a_journalDown, a_masterDown, a_inTouch, a_promise, a_base, a_logLength, a_logEpoch, a_logKind, a_logA, a_logB, a_logC, a_inodeState, a_inodePlace, a_inodeClient, a_closeUnits, a_rowLength, a_rowBlock, a_blockStamp, a_replicaHeld, a_replicaStamp, a_unitCount, a_unitValue)) h1 hI h3 hb hb16 ?_)
        rw [hfw, qt_ms]; exact hp
    · rintro post ⟨f_active, f_epoch, a_nodeUp, a_journalUp, a_masterUp, a_touch, a_log, a_many, a_promise, a_base, a_stamp, a_units, a_unit, a_sort, a_placeOf, a_client, a_rowLength, a_row, a_closedWith, a_stampOf⟩ h1 h2 h3 hp
      exact br_t rfl (ym_manyG (R := 1) h2 hiv (by decide) (fun z => absurd hrm z) (fun _ => br_t rfl (br_t rfl hp)))
  · refine oc_n (-4) hI hiv hD ?_ ?_
    · rintro post ⟨f_active, f_epoch, a_dataNodeDown, a_journalDown, a_masterDown, a_inTouch, a_promise, a_base, a_logLength, a_logEpoch, a_logKind, a_logA, a_logB, a_logC, a_inodeState, a_inodePlace, a_inodeClient, a_closeUnits, a_rowLength, a_rowBlock, a_blockStamp, a_replicaHeld, a_replicaStamp, a_unitCount, a_unitValue⟩ h1 h2 h3 hp
      exact br_t rfl (xm_lackG (R := 1) h2 hiv (by decide) (fun _ => br_f bo_1 hp) (fun z => absurd z hrm))
    · rintro post ⟨f_active, f_epoch, a_nodeUp, a_journalUp, a_masterUp, a_touch, a_log, a_many, a_promise, a_base, a_stamp, a_units, a_unit, a_sort, a_placeOf, a_client, a_rowLength, a_row, a_closedWith, a_stampOf⟩ h1 h2 h3 hp
      exact br_t rfl (ym_manyG (R := 1) h2 hiv (by decide) (fun _ => br_f bo_1 hp) (fun z => absurd z hrm))
theorem cl_mid1 {k : Nat} {T : qt_T} {L : lj_L} {nu : Nat → Bool} {st un : Nat → Nat} {ua : Nat → Int32} {n l b : Nat} (hk : k ≤ 2048) (hI : qt_iv T) (hiv : lj_iv k L T) (hD : rd_iv L (nu, st, un, ua)) (hb : rd_bd (nu, st, un, ua)) (hac : 0 < lj_ac L) (he : lj_ep L ≤ 512) (hn : n < 12) (hs : qt_so T n = 2) (hl : l ≤ 8) (hb16 : b < 16) (hin : qt_in (qt_rl T) (qt_ro T) b) (hfw : rd_fw (rd_g nu st b (qt_sp T b)) un b 5 = l + 1) :
    oc k T L (nu, st, un, ua) (fun post u => match u with | (f_active, f_epoch, a_dataNodeDown, a_journalDown, a_masterDown, a_inTouch, a_promise, a_base, a_logLength, a_logEpoch, a_logKind, a_logA, a_logB, a_logC, a_inodeState, a_inodePlace, a_inodeClient, a_closeUnits, a_rowLength, a_rowBlock, a_blockStamp, a_replicaHeld, a_replicaStamp, a_unitCount, a_unitValue) => wX_close_85 post (nI n) (nI b) 1 f_active f_epoch a_dataNodeDown a_journalDown a_masterDown a_inTouch a_promise a_base a_logLength a_logEpoch a_logKind a_logA a_logB a_logC a_inodeState a_inodePlace a_inodeClient a_closeUnits a_rowLength a_rowBlock a_blockStamp a_replicaHeld a_replicaStamp a_unitCount a_unitValue) (fun post v => match v with | (f_active, f_epoch, a_nodeUp, a_journalUp, a_masterUp, a_touch, a_log, a_many, a_promise, a_base, a_stamp, a_units, a_unit, a_sort, a_placeOf, a_client, a_rowLength, a_row, a_closedWith, a_stampOf) => wY_close_120 post (nI n) (nI b) (nI l) 1 f_active f_epoch a_nodeUp a_journalUp a_masterUp a_touch a_log a_many a_promise a_base a_stamp a_units a_unit a_sort a_placeOf a_client a_rowLength a_row a_closedWith a_stampOf) := by
  by_cases hrm2 : lj_rm L 2
  · have hrm : lj_rm L 1 := by
      obtain ⟨mu, ju, ac, ep, to, pr, ba, le, lg⟩ := L
      intro j hj ht
      have := hrm2 j hj ht
      exact ⟨fun z => by have := this.1 z; omega, by omega⟩
    have ho : qt_ok T (lj_ep L, 2, b, 0, 1) := ⟨he, Or.inr (Or.inr (Or.inl ⟨rfl, hb16, rfl, rfl⟩))⟩
    have W := lj_wrI hiv hac hrm ho
    have hlen := lj_rmL hiv hac hrm
    have hx : ∃ d, d < 5 ∧ rd_g nu st b (qt_sp T b) d = true := by
      obtain ⟨d, h1, h2, _⟩ := rd_fwA (f := rd_g nu st b (qt_sp T b)) (un := un) (b := b) (n := 5) (by omega)
      exact ⟨d, h1, h2⟩
    obtain ⟨r1, r2, r3, r4⟩ := rd_rnG hI hiv hD hac he hrm hb16 hl hx
    cases hkp : lj_kept L with
    | true =>
      rw [if_pos hkp] at W
      obtain ⟨e1, e2, e3⟩ := lj_wrN (q := 2) (a := b) (b := 0) (c := 1) hiv hac hkp
      have hI1 := qt_ivAp hI ho (show lj_len L < 1000 by omega)
      obtain ⟨q1, q2, q3, q4⟩ := qt_ap2 (T := T) (e := lj_ep L) (a := b) (b := 0) (c := 1) (k := lj_len L)
      have E := cl_end (nu := nu) (st := rd_set (2048 * lj_ep L + lj_len L + 1) (rd_g nu st b (qt_sp T b)) b st) (un := rd_set l (rd_g nu st b (qt_sp T b)) b un) (ua := ua) (n := n) (l := l) hI1 W (fun c hc => by have := r1 c hc; rw [e1, e3]; omega) r2 (by rw [e2]; exact hac) (by rw [e3]; exact he) (lj_wrR hrm2) hn (by rw [q1]; exact hs) hl
      obtain ⟨r, T', L', D', a1, a2, a3, a4, a5⟩ := E
      have hbd : rd_bd (nu, rd_set (2048 * lj_ep L + lj_len L + 1) (rd_g nu st b (qt_sp T b)) b st, rd_set l (rd_g nu st b (qt_sp T b)) b un, ua) := ⟨fun c hc => by have := r1 c hc; omega, r2⟩
      have hfw1 : rd_fw (rd_g nu (rd_set (2048 * lj_ep L + lj_len L + 1) (rd_g nu st b (qt_sp T b)) b st) b (qt_sp (qt_ap T (lj_ep L, 2, b, 0, 1) (lj_len L)) b)) (rd_set l (rd_g nu st b (qt_sp T b)) b un) b 5 = l + 1 := by
        rw [q4, qt_us]
        obtain ⟨d, hd, hg⟩ := hx
        exact rd_fwK (fun d hd hg => r4 d hd (by rw [← r3 d hd]; exact hg)) ⟨d, hd, by rw [r3 d hd]; exact hg⟩
      refine ⟨r, T', L', D', a1, a2, a3, ?_, ?_⟩
      · rintro post ⟨f_active, f_epoch, a_dataNodeDown, a_journalDown, a_masterDown, a_inTouch, a_promise, a_base, a_logLength, a_logEpoch, a_logKind, a_logA, a_logB, a_logC, a_inodeState, a_inodePlace, a_inodeClient, a_closeUnits, a_rowLength, a_rowBlock, a_blockStamp, a_replicaHeld, a_replicaStamp, a_unitCount, a_unitValue⟩ h1 h2 h3 hp
        refine br_f bo_1 (xm_lackG (R := 2) h2 hiv (by decide) (fun z => absurd hrm2 z) (fun _ => br_t rfl (br_f bo_1 (xm_renewG h1 hI h2 h3 hb hac hiv he hrm hb16 hfw (fun _ => ?_) (fun z => absurd (hkp.symm.trans z) (by decide))))))
        rintro ⟨f_active, f_epoch, a_dataNodeDown, a_journalDown, a_masterDown, a_inTouch, a_promise, a_base, a_logLength, a_logEpoch, a_logKind, a_logA, a_logB, a_logC, a_inodeState, a_inodePlace, a_inodeClient, a_closeUnits, a_rowLength, a_rowBlock, a_blockStamp, a_replicaHeld, a_replicaStamp, a_unitCount, a_unitValue⟩ g1 g2 g3
        refine br_f bo_1 (br_f (ix_m1 (by omega)) (xm_fewestUnits (u := (f_active, f_epoch, a_dataNodeDown, a_journalDown, a_masterDown, a_inTouch, a_promise, a_base, a_logLength, a_logEpoch, a_logKind, a_logA, a_logB, a_logC, a_inodeState, a_inodePlace, a_inodeClient, a_closeUnits, a_rowLength, a_rowBlock, a_blockStamp, a_replicaHeld, a_replicaStamp, a_unitCount, a_unitValue)) g1 hI1 g3 hbd hb16 ?_))
        rw [hfw1, qt_ms]
        exact a4 post (f_active, f_epoch, a_dataNodeDown, a_journalDown, a_masterDown, a_inTouch, a_promise, a_base, a_logLength, a_logEpoch, a_logKind, a_logA, a_logB, a_logC, a_inodeState, a_inodePlace, a_inodeClient, a_closeUnits, a_rowLength, a_rowBlock, a_blockStamp, a_replicaHeld, a_replicaStamp, a_unitCount, a_unitValue) g1 g2 g3 hp
      · rintro post ⟨f_active, f_epoch, a_nodeUp, a_journalUp, a_masterUp, a_touch, a_log, a_many, a_promise, a_base, a_stamp, a_units, a_unit, a_sort, a_placeOf, a_client, a_rowLength, a_row, a_closedWith, a_stampOf⟩ h1 h2 h3 hp
        refine br_f bo_1 (ym_manyG (R := 2) h2 hiv (by decide) (fun z => absurd hrm2 z) (fun _ => br_t rfl (br_f bo_1 (ym_renewG h1 hI h2 h3 hb hac hiv he hrm hb16 hin hfw (fun _ => ?_) (fun z => absurd (hkp.symm.trans z) (by decide))))))
        rintro ⟨f_active, f_epoch, a_nodeUp, a_journalUp, a_masterUp, a_touch, a_log, a_many, a_promise, a_base, a_stamp, a_units, a_unit, a_sort, a_placeOf, a_client, a_rowLength, a_row, a_closedWith, a_stampOf⟩ g1 g2 g3
        exact br_f bo_1 (a5 post (f_active, f_epoch, a_nodeUp, a_journalUp, a_masterUp, a_touch, a_log, a_many, a_promise, a_base, a_stamp, a_units, a_unit, a_sort, a_placeOf, a_client, a_rowLength, a_row, a_closedWith, a_stampOf) g1 g2 g3 hp)
    | false =>
      rw [if_neg (by rw [hkp]; decide)] at W
      refine ⟨-3, T, lj_wr L 2 b 0 1, rd_rn (nu, st, un, ua) (rd_g nu st b (qt_sp T b)) b (2048 * lj_ep L + lj_len L) l, hI, W, rd_wrI hiv hac r1 r2, ?_, ?_⟩
      · rintro post ⟨f_active, f_epoch, a_dataNodeDown, a_journalDown, a_masterDown, a_inTouch, a_promise, a_base, a_logLength, a_logEpoch, a_logKind, a_logA, a_logB, a_logC, a_inodeState, a_inodePlace, a_inodeClient, a_closeUnits, a_rowLength, a_rowBlock, a_blockStamp, a_replicaHeld, a_replicaStamp, a_unitCount, a_unitValue⟩ h1 h2 h3 hp
        refine br_f bo_1 (xm_lackG (R := 2) h2 hiv (by decide) (fun z => absurd hrm2 z) (fun _ => br_t rfl (br_f bo_1 (xm_renewG h1 hI h2 h3 hb hac hiv he hrm hb16 hfw (fun z => absurd (hkp.symm.trans z) (by decide)) (fun _ => ?_)))))
        rintro ⟨f_active, f_epoch, a_dataNodeDown, a_journalDown, a_masterDown, a_inTouch, a_promise, a_base, a_logLength, a_logEpoch, a_logKind, a_logA, a_logB, a_logC, a_inodeState, a_inodePlace, a_inodeClient, a_closeUnits, a_rowLength, a_rowBlock, a_blockStamp, a_replicaHeld, a_replicaStamp, a_unitCount, a_unitValue⟩ g1 g2 g3
        exact br_t rfl (hp _ g1 g2 g3)
      · rintro post ⟨f_active, f_epoch, a_nodeUp, a_journalUp, a_masterUp, a_touch, a_log, a_many, a_promise, a_base, a_stamp, a_units, a_unit, a_sort, a_placeOf, a_client, a_rowLength, a_row, a_closedWith, a_stampOf⟩ h1 h2 h3 hp
        refine br_f bo_1 (ym_manyG (R := 2) h2 hiv (by decide) (fun z => absurd hrm2 z) (fun _ => br_t rfl (br_f bo_1 (ym_renewG h1 hI h2 h3 hb hac hiv he hrm hb16 hin hfw (fun z => absurd (hkp.symm.trans z) (by decide)) (fun _ => ?_)))))
        rintro ⟨f_active, f_epoch, a_nodeUp, a_journalUp, a_masterUp, a_touch, a_log, a_many, a_promise, a_base, a_stamp, a_units, a_unit, a_sort, a_placeOf, a_client, a_rowLength, a_row, a_closedWith, a_stampOf⟩ g2 g3
        exact br_t rfl (hp _ g2 g3)
  · refine oc_n (-4) hI hiv hD ?_ ?_
    · rintro post ⟨f_active, f_epoch, a_dataNodeDown, a_journalDown, a_masterDown, a_inTouch, a_promise, a_base, a_logLength, a_logEpoch, a_logKind, a_logA, a_logB, a_logC, a_inodeState, a_inodePlace, a_inodeClient, a_closeUnits, a_rowLength, a_rowBlock, a_blockStamp, a_replicaHeld, a_replicaStamp, a_unitCount, a_unitValue⟩ h1 h2 h3 hp
      exact br_f bo_1 (xm_lackG (R := 2) h2 hiv (by decide) (fun _ => br_f bo_1 hp) (fun z => absurd z hrm2))
    · rintro post ⟨f_active, f_epoch, a_nodeUp, a_journalUp, a_masterUp, a_touch, a_log, a_many, a_promise, a_base, a_stamp, a_units, a_unit, a_sort, a_placeOf, a_client, a_rowLength, a_row, a_closedWith, a_stampOf⟩ h1 h2 h3 hp
      exact br_f bo_1 (ym_manyG (R := 2) h2 hiv (by decide) (fun _ => br_f bo_1 hp) (fun z => absurd z hrm2))
end
section
/-! close: closed -/
section
variable {k : Nat} {T : qt_T} {L : lj_L} {nu : Nat → Bool} {st un : Nat → Nat} {ua : Nat → Int32} {n : Nat}
theorem xm_canBeClosed {u : SX} (h : sx_T T u) (hI : qt_iv T) (hD : sx_D (nu, st, un, ua) u) (hb : rd_bd (nu, st, un, ua)) {post : Int32 → Prop} {b : Nat} {z : Int32} (hb16 : b < 16) (h1 : 0 < rd_fw (rd_g nu st b (qt_sp T b)) un b 5 → (z = 0 → rd_fw (rd_g nu st b (qt_sp T b)) un b 5 = rd_mo (rd_g nu st b (qt_sp T b)) un b 5) → post 1) (h0 : (rd_fw (rd_g nu st b (qt_sp T b)) un b 5 = 0 ∨ (z = 0 ∧ rd_fw (rd_g nu st b (qt_sp T b)) un b 5 ≠ rd_mo (rd_g nu st b (qt_sp T b)) un b 5)) → post 0) : wpX_canBeClosed post u (nI b) z := by
  obtain ⟨f_active, f_epoch, a_dataNodeDown, a_journalDown, a_masterDown, a_inTouch, a_promise, a_base, a_logLength, a_logEpoch, a_logKind, a_logA, a_logB, a_logC, a_inodeState, a_inodePlace, a_inodeClient, a_closeUnits, a_rowLength, a_rowBlock, a_blockStamp, a_replicaHeld, a_replicaStamp, a_unitCount, a_unitValue⟩ := u
  unfold wpX_canBeClosed
  have hw := rd_fwB (f := rd_g nu st b (qt_sp T b)) hb16 hb.2 (n := 5) (by omega)
  have ho := rd_moB (f := rd_g nu st b (qt_sp T b)) hb16 hb.2 (n := 5) (by omega)
  refine xm_goodNodes (u := (f_active, f_epoch, a_dataNodeDown, a_journalDown, a_masterDown, a_inTouch, a_promise, a_base, a_logLength, a_logEpoch, a_logKind, a_logA, a_logB, a_logC, a_inodeState, a_inodePlace, a_inodeClient, a_closeUnits, a_rowLength, a_rowBlock, a_blockStamp, a_replicaHeld, a_replicaStamp, a_unitCount, a_unitValue)) h hI hD hb hb16 (cd_if (rd_z _) (fun y => h0 (Or.inl (rd_fw0 y))) (fun y => ?_))
  have hf : 0 < rd_fw (rd_g nu st b (qt_sp T b)) un b 5 := by
    refine Classical.byContradiction (fun x => y (fun d hd => ?_))
    cases hg : rd_g nu st b (qt_sp T b) d with
    | false => rfl
    | true => exact absurd (rd_fwL (un := un) (b := b) hd hg).1 x
  refine cd_if Iff.rfl (fun z0 => xm_fewestUnits (u := (f_active, f_epoch, a_dataNodeDown, a_journalDown, a_masterDown, a_inTouch, a_promise, a_base, a_logLength, a_logEpoch, a_logKind, a_logA, a_logB, a_logC, a_inodeState, a_inodePlace, a_inodeClient, a_closeUnits, a_rowLength, a_rowBlock, a_blockStamp, a_replicaHeld, a_replicaStamp, a_unitCount, a_unitValue)) h hI hD hb hb16 (xm_mostUnits (u := (f_active, f_epoch, a_dataNodeDown, a_journalDown, a_masterDown, a_inTouch, a_promise, a_base, a_logLength, a_logEpoch, a_logKind, a_logA, a_logB, a_logC, a_inodeState, a_inodePlace, a_inodeClient, a_closeUnits, a_rowLength, a_rowBlock, a_blockStamp, a_replicaHeld, a_replicaStamp, a_unitCount, a_unitValue)) h hI hD hb hb16 (cd_if (qt_mE (by omega) (by omega)) (fun x => h1 hf (fun _ => x)) (fun x => h0 (Or.inr ⟨z0, x⟩))))) (fun z0 => h1 hf (fun x => absurd x z0))
theorem cl_36 {p : Int32} (hk : k ≤ 2048) (hI : qt_iv T) (hiv : lj_iv k L T) (hD : rd_iv L (nu, st, un, ua)) (hb : rd_bd (nu, st, un, ua)) (hac : 0 < lj_ac L) (he : lj_ep L ≤ 512) (hn : n < 12) (hs : qt_so T n = 2) :
    oc k T L (nu, st, un, ua) (fun post u => match u with | (f_active, f_epoch, a_dataNodeDown, a_journalDown, a_masterDown, a_inTouch, a_promise, a_base, a_logLength, a_logEpoch, a_logKind, a_logA, a_logB, a_logC, a_inodeState, a_inodePlace, a_inodeClient, a_closeUnits, a_rowLength, a_rowBlock, a_blockStamp, a_replicaHeld, a_replicaStamp, a_unitCount, a_unitValue) => wX_close_36 post p (nI n) f_active f_epoch a_dataNodeDown a_journalDown a_masterDown a_inTouch a_promise a_base a_logLength a_logEpoch a_logKind a_logA a_logB a_logC a_inodeState a_inodePlace a_inodeClient a_closeUnits a_rowLength a_rowBlock a_blockStamp a_replicaHeld a_replicaStamp a_unitCount a_unitValue) (fun post v => match v with | (f_active, f_epoch, a_nodeUp, a_journalUp, a_masterUp, a_touch, a_log, a_many, a_promise, a_base, a_stamp, a_units, a_unit, a_sort, a_placeOf, a_client, a_rowLength, a_row, a_closedWith, a_stampOf) => wY_close_49 post p (nI n) f_active f_epoch a_nodeUp a_journalUp a_masterUp a_touch a_log a_many a_promise a_base a_stamp a_units a_unit a_sort a_placeOf a_client a_rowLength a_row a_closedWith a_stampOf) := by
  by_cases hr : qt_rl T n = 0
  · refine oc_c (cl_mid0 (n := n) (l := 0) (x3 := -1) hI hiv hD hb hac he hn hs (by decide) (Or.inl ⟨rfl, rfl⟩)) ?_ ?_
    · rintro post ⟨f_active, f_epoch, a_dataNodeDown, a_journalDown, a_masterDown, a_inTouch, a_promise, a_base, a_logLength, a_logEpoch, a_logKind, a_logA, a_logB, a_logC, a_inodeState, a_inodePlace, a_inodeClient, a_closeUnits, a_rowLength, a_rowBlock, a_blockStamp, a_replicaHeld, a_replicaStamp, a_unitCount, a_unitValue⟩ h1 h2 h3 hp
      unfold wX_close_36
      exact xm_lastBlock (u := (f_active, f_epoch, a_dataNodeDown, a_journalDown, a_masterDown, a_inTouch, a_promise, a_base, a_logLength, a_logEpoch, a_logKind, a_logA, a_logB, a_logC, a_inodeState, a_inodePlace, a_inodeClient, a_closeUnits, a_rowLength, a_rowBlock, a_blockStamp, a_replicaHeld, a_replicaStamp, a_unitCount, a_unitValue)) h1 hI hn (fun _ => br_t rfl (br_t rfl hp)) (fun z => by omega)
    · rintro post ⟨f_active, f_epoch, a_nodeUp, a_journalUp, a_masterUp, a_touch, a_log, a_many, a_promise, a_base, a_stamp, a_units, a_unit, a_sort, a_placeOf, a_client, a_rowLength, a_row, a_closedWith, a_stampOf⟩ h1 h2 h3 hp
      unfold wY_close_49
      exact ym_last (v := (f_active, f_epoch, a_nodeUp, a_journalUp, a_masterUp, a_touch, a_log, a_many, a_promise, a_base, a_stamp, a_units, a_unit, a_sort, a_placeOf, a_client, a_rowLength, a_row, a_closedWith, a_stampOf)) h1 hI hn (fun _ => br_t (by decide) hp) (fun z => by omega)
  · have hb16 := qt_iv5 hI n (qt_rl T n - 1) hn (by omega)
    have hin : qt_in (qt_rl T) (qt_ro T) (qt_ro T (3 * n + (qt_rl T n - 1))) := ⟨n, qt_rl T n - 1, hn, by omega, rfl⟩
    generalize hbb : qt_ro T (3 * n + (qt_rl T n - 1)) = b at hb16 hin
    have hw := rd_fwB (f := rd_g nu st b (qt_sp T b)) hb16 hb.2 (n := 5) (by omega)
    have ho := rd_moB (f := rd_g nu st b (qt_sp T b)) hb16 hb.2 (n := 5) (by omega)
    have X36 : ∀ (post : Int32 → SX → Prop) f_active f_epoch a_dataNodeDown a_journalDown a_masterDown a_inTouch a_promise a_base a_logLength a_logEpoch a_logKind a_logA a_logB a_logC a_inodeState a_inodePlace a_inodeClient a_closeUnits a_rowLength a_rowBlock a_blockStamp a_replicaHeld a_replicaStamp a_unitCount a_unitValue, sx_T T (f_active, f_epoch, a_dataNodeDown, a_journalDown, a_masterDown, a_inTouch, a_promise, a_base, a_logLength, a_logEpoch, a_logKind, a_logA, a_logB, a_logC, a_inodeState, a_inodePlace, a_inodeClient, a_closeUnits, a_rowLength, a_rowBlock, a_blockStamp, a_replicaHeld, a_replicaStamp, a_unitCount, a_unitValue) → sx_D (nu, st, un, ua) (f_active, f_epoch, a_dataNodeDown, a_journalDown, a_masterDown, a_inTouch, a_promise, a_base, a_logLength, a_logEpoch, a_logKind, a_logA, a_logB, a_logC, a_inodeState, a_inodePlace, a_inodeClient, a_closeUnits, a_rowLength, a_rowBlock, a_blockStamp, a_replicaHeld, a_replicaStamp, a_unitCount, a_unitValue) → ((p = -1 ∨ rd_hg nu st b (qt_sp T b)) → wX_close_65 post (nI n) (nI b) 1 f_active f_epoch a_dataNodeDown a_journalDown a_masterDown a_inTouch a_promise a_base a_logLength a_logEpoch a_logKind a_logA a_logB a_logC a_inodeState a_inodePlace a_inodeClient a_closeUnits a_rowLength a_rowBlock a_blockStamp a_replicaHeld a_replicaStamp a_unitCount a_unitValue) → (¬ (p = -1 ∨ rd_hg nu st b (qt_sp T b)) → wX_close_65 post (nI n) (nI b) 0 f_active f_epoch a_dataNodeDown a_journalDown a_masterDown a_inTouch a_promise a_base a_logLength a_logEpoch a_logKind a_logA a_logB a_logC a_inodeState a_inodePlace a_inodeClient a_closeUnits a_rowLength a_rowBlock a_blockStamp a_replicaHeld a_replicaStamp a_unitCount a_unitValue) → wX_close_36 post p (nI n) f_active f_epoch a_dataNodeDown a_journalDown a_masterDown a_inTouch a_promise a_base a_logLength a_logEpoch a_logKind a_logA a_logB a_logC a_inodeState a_inodePlace a_inodeClient a_closeUnits a_rowLength a_rowBlock a_blockStamp a_replicaHeld a_replicaStamp a_unitCount a_unitValue := by
      intro post f_active f_epoch a_dataNodeDown a_journalDown a_masterDown a_inTouch a_promise a_base a_logLength a_logEpoch a_logKind a_logA a_logB a_logC a_inodeState a_inodePlace a_inodeClient a_closeUnits a_rowLength a_rowBlock a_blockStamp a_replicaHeld a_replicaStamp a_unitCount a_unitValue h1 h3 a1 a0
      unfold wX_close_36
      refine xm_lastBlock (u := (f_active, f_epoch, a_dataNodeDown, a_journalDown, a_masterDown, a_inTouch, a_promise, a_base, a_logLength, a_logEpoch, a_logKind, a_logA, a_logB, a_logC, a_inodeState, a_inodePlace, a_inodeClient, a_closeUnits, a_rowLength, a_rowBlock, a_blockStamp, a_replicaHeld, a_replicaStamp, a_unitCount, a_unitValue)) h1 hI hn (fun z => absurd z hr) (fun z => ?_)
      rw [hbb]
      exact br_f (ix_m1 (by omega)) (cd_if Iff.rfl (fun y => a1 (Or.inl y)) (fun y => xm_hangs (u := (f_active, f_epoch, a_dataNodeDown, a_journalDown, a_masterDown, a_inTouch, a_promise, a_base, a_logLength, a_logEpoch, a_logKind, a_logA, a_logB, a_logC, a_inodeState, a_inodePlace, a_inodeClient, a_closeUnits, a_rowLength, a_rowBlock, a_blockStamp, a_replicaHeld, a_replicaStamp, a_unitCount, a_unitValue)) h1 hI h3 hb hb16 (fun x => br_f bo_1 (a1 (Or.inr x))) (fun x => br_t rfl (a0 (fun w => by rcases w with w | w; exact y w; exact x w)))))
    have Y49 : ∀ (post : Int32 → SY → Prop) f_active f_epoch a_nodeUp a_journalUp a_masterUp a_touch a_log a_many a_promise a_base a_stamp a_units a_unit a_sort a_placeOf a_client a_rowLength a_row a_closedWith a_stampOf, sy_T T (f_active, f_epoch, a_nodeUp, a_journalUp, a_masterUp, a_touch, a_log, a_many, a_promise, a_base, a_stamp, a_units, a_unit, a_sort, a_placeOf, a_client, a_rowLength, a_row, a_closedWith, a_stampOf) → sy_D (nu, st, un, ua) (f_active, f_epoch, a_nodeUp, a_journalUp, a_masterUp, a_touch, a_log, a_many, a_promise, a_base, a_stamp, a_units, a_unit, a_sort, a_placeOf, a_client, a_rowLength, a_row, a_closedWith, a_stampOf) → (rd_fw (rd_g nu st b (qt_sp T b)) un b 5 = 0 → post (-2) (f_active, f_epoch, a_nodeUp, a_journalUp, a_masterUp, a_touch, a_log, a_many, a_promise, a_base, a_stamp, a_units, a_unit, a_sort, a_placeOf, a_client, a_rowLength, a_row, a_closedWith, a_stampOf)) → (∀ l, rd_fw (rd_g nu st b (qt_sp T b)) un b 5 = l + 1 → (p = -1 ∨ rd_hg nu st b (qt_sp T b)) → wY_close_120 post (nI n) (nI b) (nI l) 1 f_active f_epoch a_nodeUp a_journalUp a_masterUp a_touch a_log a_many a_promise a_base a_stamp a_units a_unit a_sort a_placeOf a_client a_rowLength a_row a_closedWith a_stampOf) → (∀ l, rd_fw (rd_g nu st b (qt_sp T b)) un b 5 = l + 1 → ¬ (p = -1 ∨ rd_hg nu st b (qt_sp T b)) → wY_close_99 post (nI n) (nI b) (nI l) 0 f_active f_epoch a_nodeUp a_journalUp a_masterUp a_touch a_log a_many a_promise a_base a_stamp a_units a_unit a_sort a_placeOf a_client a_rowLength a_row a_closedWith a_stampOf) → wY_close_49 post p (nI n) f_active f_epoch a_nodeUp a_journalUp a_masterUp a_touch a_log a_many a_promise a_base a_stamp a_units a_unit a_sort a_placeOf a_client a_rowLength a_row a_closedWith a_stampOf := by
      intro post f_active f_epoch a_nodeUp a_journalUp a_masterUp a_touch a_log a_many a_promise a_base a_stamp a_units a_unit a_sort a_placeOf a_client a_rowLength a_row a_closedWith a_stampOf h1 h3 a0 a1 a2
      unfold wY_close_49
      refine ym_last (v := (f_active, f_epoch, a_nodeUp, a_journalUp, a_masterUp, a_touch, a_log, a_many, a_promise, a_base, a_stamp, a_units, a_unit, a_sort, a_placeOf, a_client, a_rowLength, a_row, a_closedWith, a_stampOf)) h1 hI hn (fun z => absurd z hr) (fun z => ?_)
      rw [hbb]
      refine br_f (nI_pos (by omega)) (ym_bound0 (v := (f_active, f_epoch, a_nodeUp, a_journalUp, a_masterUp, a_touch, a_log, a_many, a_promise, a_base, a_stamp, a_units, a_unit, a_sort, a_placeOf, a_client, a_rowLength, a_row, a_closedWith, a_stampOf)) h1 hI h3 hb hb16 hin (cd_if (qt_Nm (s := 0) (by omega) (by decide)) (fun y => ?_) (fun y => a0 (by omega))))
      obtain ⟨l, hl⟩ : ∃ l, rd_fw (rd_g nu st b (qt_sp T b)) un b 5 = l + 1 := ⟨rd_fw (rd_g nu st b (qt_sp T b)) un b 5 - 1, by omega⟩
      rw [hl, qt_ms]
      exact cd_if Iff.rfl (fun x => br_f bo_1 (a1 l hl (Or.inl x))) (fun x => ym_hangs (v := (f_active, f_epoch, a_nodeUp, a_journalUp, a_masterUp, a_touch, a_log, a_many, a_promise, a_base, a_stamp, a_units, a_unit, a_sort, a_placeOf, a_client, a_rowLength, a_row, a_closedWith, a_stampOf)) h1 hI h3 hb hb16 hin (fun w => br_f bo_1 (br_f bo_1 (a1 l hl (Or.inr w)))) (fun w => br_t rfl (a2 l hl (fun q => by rcases q with q | q; exact x q; exact w q))))
    by_cases hf0 : rd_fw (rd_g nu st b (qt_sp T b)) un b 5 = 0
    · refine oc_n (-2) hI hiv hD ?_ ?_
      · rintro post ⟨f_active, f_epoch, a_dataNodeDown, a_journalDown, a_masterDown, a_inTouch, a_promise, a_base, a_logLength, a_logEpoch, a_logKind, a_logA, a_logB, a_logC, a_inodeState, a_inodePlace, a_inodeClient, a_closeUnits, a_rowLength, a_rowBlock, a_blockStamp, a_replicaHeld, a_replicaStamp, a_unitCount, a_unitValue⟩ h1 h2 h3 hp
        have key : ∀ z, wX_close_65 post (nI n) (nI b) z f_active f_epoch a_dataNodeDown a_journalDown a_masterDown a_inTouch a_promise a_base a_logLength a_logEpoch a_logKind a_logA a_logB a_logC a_inodeState a_inodePlace a_inodeClient a_closeUnits a_rowLength a_rowBlock a_blockStamp a_replicaHeld a_replicaStamp a_unitCount a_unitValue := fun z => br_f (ix_m1 (by omega)) (xm_canBeClosed (u := (f_active, f_epoch, a_dataNodeDown, a_journalDown, a_masterDown, a_inTouch, a_promise, a_base, a_logLength, a_logEpoch, a_logKind, a_logA, a_logB, a_logC, a_inodeState, a_inodePlace, a_inodeClient, a_closeUnits, a_rowLength, a_rowBlock, a_blockStamp, a_replicaHeld, a_replicaStamp, a_unitCount, a_unitValue)) h1 hI h3 hb hb16 (fun y => by omega) (fun _ => br_t rfl hp))
        exact X36 post _ _ _ _ _ _ _ _ _ _ _ _ _ _ _ _ _ _ _ _ _ _ _ _ _ h1 h3 (fun _ => key 1) (fun _ => key 0)
      · rintro post ⟨f_active, f_epoch, a_nodeUp, a_journalUp, a_masterUp, a_touch, a_log, a_many, a_promise, a_base, a_stamp, a_units, a_unit, a_sort, a_placeOf, a_client, a_rowLength, a_row, a_closedWith, a_stampOf⟩ h1 h2 h3 hp
        exact Y49 post _ _ _ _ _ _ _ _ _ _ _ _ _ _ _ _ _ _ _ _ h1 h3 (fun _ => hp) (fun l hl => by omega) (fun l hl => by omega)
    · obtain ⟨l, hl⟩ : ∃ l, rd_fw (rd_g nu st b (qt_sp T b)) un b 5 = l + 1 := ⟨rd_fw (rd_g nu st b (qt_sp T b)) un b 5 - 1, by omega⟩
      by_cases hre : p = -1 ∨ rd_hg nu st b (qt_sp T b)
      · refine oc_c (cl_mid1 (n := n) (l := l) (b := b) hk hI hiv hD hb hac he hn hs (by omega) hb16 hin hl) ?_ ?_
        · rintro post ⟨f_active, f_epoch, a_dataNodeDown, a_journalDown, a_masterDown, a_inTouch, a_promise, a_base, a_logLength, a_logEpoch, a_logKind, a_logA, a_logB, a_logC, a_inodeState, a_inodePlace, a_inodeClient, a_closeUnits, a_rowLength, a_rowBlock, a_blockStamp, a_replicaHeld, a_replicaStamp, a_unitCount, a_unitValue⟩ h1 h2 h3 hp
          exact X36 post _ _ _ _ _ _ _ _ _ _ _ _ _ _ _ _ _ _ _ _ _ _ _ _ _ h1 h3 (fun _ => br_f (ix_m1 (by omega)) (xm_canBeClosed (u := (f_active, f_epoch, a_dataNodeDown, a_journalDown, a_masterDown, a_inTouch, a_promise, a_base, a_logLength, a_logEpoch, a_logKind, a_logA, a_logB, a_logC, a_inodeState, a_inodePlace, a_inodeClient, a_closeUnits, a_rowLength, a_rowBlock, a_blockStamp, a_replicaHeld, a_replicaStamp, a_unitCount, a_unitValue)) h1 hI h3 hb hb16 (fun _ _ => br_f bo_1 hp) (fun z => by rcases z with z | z; omega; exact absurd z.1 bo_1))) (fun z => absurd hre z)
        · rintro post ⟨f_active, f_epoch, a_nodeUp, a_journalUp, a_masterUp, a_touch, a_log, a_many, a_promise, a_base, a_stamp, a_units, a_unit, a_sort, a_placeOf, a_client, a_rowLength, a_row, a_closedWith, a_stampOf⟩ h1 h2 h3 hp
          refine Y49 post _ _ _ _ _ _ _ _ _ _ _ _ _ _ _ _ _ _ _ _ h1 h3 (fun z => absurd z hf0) (fun l' hl' _ => ?_) (fun _ _ z => absurd hre z)
          have e : l' = l := by omega
          subst e
          exact hp
      · by_cases heq : rd_fw (rd_g nu st b (qt_sp T b)) un b 5 = rd_mo (rd_g nu st b (qt_sp T b)) un b 5
        · refine oc_c (cl_mid0 (n := n) (l := l) (x3 := nI b) hI hiv hD hb hac he hn hs (by omega) (Or.inr ⟨b, hb16, rfl, hl⟩)) ?_ ?_
          · rintro post ⟨f_active, f_epoch, a_dataNodeDown, a_journalDown, a_masterDown, a_inTouch, a_promise, a_base, a_logLength, a_logEpoch, a_logKind, a_logA, a_logB, a_logC, a_inodeState, a_inodePlace, a_inodeClient, a_closeUnits, a_rowLength, a_rowBlock, a_blockStamp, a_replicaHeld, a_replicaStamp, a_unitCount, a_unitValue⟩ h1 h2 h3 hp
            exact X36 post _ _ _ _ _ _ _ _ _ _ _ _ _ _ _ _ _ _ _ _ _ _ _ _ _ h1 h3 (fun z => absurd z hre) (fun _ => br_f (ix_m1 (by omega)) (xm_canBeClosed (u := (f_active, f_epoch, a_dataNodeDown, a_journalDown, a_masterDown, a_inTouch, a_promise, a_base, a_logLength, a_logEpoch, a_logKind, a_logA, a_logB, a_logC, a_inodeState, a_inodePlace, a_inodeClient, a_closeUnits, a_rowLength, a_rowBlock, a_blockStamp, a_replicaHeld, a_replicaStamp, a_unitCount, a_unitValue)) h1 hI h3 hb hb16 (fun _ _ => br_f bo_1 hp) (fun z => by rcases z with z | z; omega; exact absurd heq z.2)))
          · rintro post ⟨f_active, f_epoch, a_nodeUp, a_journalUp, a_masterUp, a_touch, a_log, a_many, a_promise, a_base, a_stamp, a_units, a_unit, a_sort, a_placeOf, a_client, a_rowLength, a_row, a_closedWith, a_stampOf⟩ h1 h2 h3 hp
            refine Y49 post _ _ _ _ _ _ _ _ _ _ _ _ _ _ _ _ _ _ _ _ h1 h3 (fun z => absurd z hf0) (fun _ _ z => absurd z hre) (fun l' hl' _ => br_t rfl (ym_bound1 (v := (f_active, f_epoch, a_nodeUp, a_journalUp, a_masterUp, a_touch, a_log, a_many, a_promise, a_base, a_stamp, a_units, a_unit, a_sort, a_placeOf, a_client, a_rowLength, a_row, a_closedWith, a_stampOf)) h1 hI h3 hb hb16 hin ?_))
            have e : l' = l := by omega
            subst e
            rw [← heq, hl, qt_ms]
            exact br_t rfl hp
        · refine oc_n (-2) hI hiv hD ?_ ?_
          · rintro post ⟨f_active, f_epoch, a_dataNodeDown, a_journalDown, a_masterDown, a_inTouch, a_promise, a_base, a_logLength, a_logEpoch, a_logKind, a_logA, a_logB, a_logC, a_inodeState, a_inodePlace, a_inodeClient, a_closeUnits, a_rowLength, a_rowBlock, a_blockStamp, a_replicaHeld, a_replicaStamp, a_unitCount, a_unitValue⟩ h1 h2 h3 hp
            exact X36 post _ _ _ _ _ _ _ _ _ _ _ _ _ _ _ _ _ _ _ _ _ _ _ _ _ h1 h3 (fun z => absurd z hre) (fun _ => br_f (ix_m1 (by omega)) (xm_canBeClosed (u := (f_active, f_epoch, a_dataNodeDown, a_journalDown, a_masterDown, a_inTouch, a_promise, a_base, a_logLength, a_logEpoch, a_logKind, a_logA, a_logB, a_logC, a_inodeState, a_inodePlace, a_inodeClient, a_closeUnits, a_rowLength, a_rowBlock, a_blockStamp, a_replicaHeld, a_replicaStamp, a_unitCount, a_unitValue)) h1 hI h3 hb hb16 (fun _ z => absurd (z rfl) heq) (fun _ => br_t rfl hp)))
          · rintro post ⟨f_active, f_epoch, a_nodeUp, a_journalUp, a_masterUp, a_touch, a_log, a_many, a_promise, a_base, a_stamp, a_units, a_unit, a_sort, a_placeOf, a_client, a_rowLength, a_row, a_closedWith, a_stampOf⟩ h1 h2 h3 hp
            refine Y49 post _ _ _ _ _ _ _ _ _ _ _ _ _ _ _ _ _ _ _ _ h1 h3 (fun z => absurd z hf0) (fun _ _ z => absurd z hre) (fun l' hl' _ => br_t rfl (ym_bound1 (v := (f_active, f_epoch, a_nodeUp, a_journalUp, a_masterUp, a_touch, a_log, a_many, a_promise, a_base, a_stamp, a_units, a_unit, a_sort, a_placeOf, a_client, a_rowLength, a_row, a_closedWith, a_stampOf)) h1 hI h3 hb hb16 hin ?_))
            refine br_f (fun z => heq ?_) hp
            rw [qt_mEn (by omega) (by omega)] at z
            omega
end
theorem i_vc_close {k : Nat} {u : SX} {v : SY} (I : i_Rel k u v) (hk : k + 4 ≤ 2048) (v1 : Int32) (v2 : Int32) : wpX_close (fun r u' => wpY_close (fun r' v' => r' = r ∧ i_Rel (k + 4) u' v') v v1 v2) u v1 v2 := by
  have I' := i_up I
  obtain ⟨T, L, ⟨nu, st, un, ua⟩, h1, h2, h3, h4, h5, h6, h7, h8⟩ := I
  have h7' := lj_ivK (show k ≤ k + 4 by omega) h7
  have hb := rl_bd h7' (by omega) h8
  have he := rl_ep h7' (by omega)
  obtain ⟨n, hn⟩ := ix_e v2 (N := 12) (by decide)
  have hac2 : lj_ac L ≤ 2 := by obtain ⟨mu, ju, ac, ep, to, pr, ba, le, lg⟩ := L; exact h7.2.1
  have R0 : ∀ v', sy_L L v' → sy_D (nu, st, un, ua) v' → i_Rel (k + 4) u v' := fun v' g1 g2 => ⟨T, _, _, h1, h2, h3, g1, g2, h6, h7', h8⟩
  obtain ⟨f_active, f_epoch, a_dataNodeDown, a_journalDown, a_masterDown, a_inTouch, a_promise, a_base, a_logLength, a_logEpoch, a_logKind, a_logA, a_logB, a_logC, a_inodeState, a_inodePlace, a_inodeClient, a_closeUnits, a_rowLength, a_rowBlock, a_blockStamp, a_replicaHeld, a_replicaStamp, a_unitCount, a_unitValue⟩ := u
  obtain ⟨g_active, g_epoch, a_nodeUp, a_journalUp, a_masterUp, a_touch, a_log, a_many, b_promise, b_base, a_stamp, a_units, a_unit, a_sort, a_placeOf, a_client, b_rowLength, a_row, a_closedWith, a_stampOf⟩ := v
  have eX : f_active = qt_m (lj_ac L) := by obtain ⟨mu, ju, ac, ep, to, pr, ba, le, lg⟩ := L; exact h2.1
  have eY : g_active = qt_m (lj_ac L) := by obtain ⟨mu, ju, ac, ep, to, pr, ba, le, lg⟩ := L; exact h4.1
  by_cases ha : lj_ac L = 0
  · exact br_t ((xm_act eX hac2).mpr ha) (br_f (fun z => by have := (ym_act eY hac2).mp z; omega) ⟨rfl, I'⟩)
  have hac : 0 < lj_ac L := by omega
  by_cases hA : n < 12 ∧ qt_so T n = 2 ∧ (v1 = -1 ∨ v1 = qt_m (qt_cl T n))
  · obtain ⟨hlt, hs, hcl⟩ := hA
    have e := ix_i hn hlt
    subst e
    obtain ⟨r, T', L', D', a1, a2, a3, a4, a5⟩ := cl_36 (p := v1) (n := n) (by omega) h6 h7' h8 hb hac he hlt hs
    have hv := vp_in_nI hlt (by decide : 12 < 2 ^ 31)
    have hc : (nI n).toNatClampNeg = n := nI_clamp (by omega)
    have Y : ∀ u', sx_T T' u' → sx_L L' u' → sx_D D' u' → wpY_close (fun r' v' => r' = r ∧ i_Rel (k + 4) u' v') (g_active, g_epoch, a_nodeUp, a_journalUp, a_masterUp, a_touch, a_log, a_many, b_promise, b_base, a_stamp, a_units, a_unit, a_sort, a_placeOf, a_client, b_rowLength, a_row, a_closedWith, a_stampOf) v1 (nI n) := by
      intro u' b1 b2 b3
      refine br_t ((ym_act eY hac2).mpr hac) (ym_tellL h7' h4 h5 ?_)
      rintro ⟨f_active, f_epoch, a_nodeUp, a_journalUp, a_masterUp, a_touch, a_log, a_many, a_promise, a_base, a_stamp, a_units, a_unit, a_sort, a_placeOf, a_client, a_rowLength, a_row, a_closedWith, a_stampOf⟩ gT gL gD
      have gT := gT hac
      have K := a5 (fun r' v' => r' = r ∧ i_Rel (k + 4) u' v') (f_active, f_epoch, a_nodeUp, a_journalUp, a_masterUp, a_touch, a_log, a_many, a_promise, a_base, a_stamp, a_units, a_unit, a_sort, a_placeOf, a_client, a_rowLength, a_row, a_closedWith, a_stampOf) gT gL gD (fun v' m1 m2 => ⟨rfl, T', L', D', b1, b2, b3, m1, m2, a1, a2, a3⟩)
      refine ym_isFile (v := (f_active, f_epoch, a_nodeUp, a_journalUp, a_masterUp, a_touch, a_log, a_many, a_promise, a_base, a_stamp, a_units, a_unit, a_sort, a_placeOf, a_client, a_rowLength, a_row, a_closedWith, a_stampOf)) gT h6 hn (fun _ _ => br_f bo_1 ⟨hv, br_t ((cd_e (c := 2) (qt_ag1 gT n hlt) (by omega) (by omega) (by decide)).mpr hs) (cd_if Iff.rfl (fun z => K) (fun z => ⟨hv, br_t ?_ K⟩))⟩) (fun z => absurd (z hlt) (by omega))
      rw [hc, qt_ag3 gT n hlt hs]
      rcases hcl with w | w
      · exact absurd w z
      · exact w.symm
    have K := a4 (fun r u' => wpY_close (fun r' v' => r' = r ∧ i_Rel (k + 4) u' v') (g_active, g_epoch, a_nodeUp, a_journalUp, a_masterUp, a_touch, a_log, a_many, b_promise, b_base, a_stamp, a_units, a_unit, a_sort, a_placeOf, a_client, b_rowLength, a_row, a_closedWith, a_stampOf) v1 (nI n)) (f_active, f_epoch, a_dataNodeDown, a_journalDown, a_masterDown, a_inTouch, a_promise, a_base, a_logLength, a_logEpoch, a_logKind, a_logA, a_logB, a_logC, a_inodeState, a_inodePlace, a_inodeClient, a_closeUnits, a_rowLength, a_rowBlock, a_blockStamp, a_replicaHeld, a_replicaStamp, a_unitCount, a_unitValue) h1 h2 h3 Y
    refine br_f (fun z => ha ((xm_act eX hac2).mp z)) (xm_isOpen (u := (f_active, f_epoch, a_dataNodeDown, a_journalDown, a_masterDown, a_inTouch, a_promise, a_base, a_logLength, a_logEpoch, a_logKind, a_logA, a_logB, a_logC, a_inodeState, a_inodePlace, a_inodeClient, a_closeUnits, a_rowLength, a_rowBlock, a_blockStamp, a_replicaHeld, a_replicaStamp, a_unitCount, a_unitValue)) h1 h6 hn (fun _ _ => br_f bo_1 (cd_if Iff.rfl (fun z => K) (fun z => ⟨hv, br_t ?_ K⟩))) (fun z => absurd hs (z hlt)))
    rw [hc, qt_ag3 h1 n hlt hs]
    rcases hcl with w | w
    · exact absurd w z
    · exact w.symm
  · have Y : wpY_close (fun r' v' => r' = -2 ∧ i_Rel (k + 4) (f_active, f_epoch, a_dataNodeDown, a_journalDown, a_masterDown, a_inTouch, a_promise, a_base, a_logLength, a_logEpoch, a_logKind, a_logA, a_logB, a_logC, a_inodeState, a_inodePlace, a_inodeClient, a_closeUnits, a_rowLength, a_rowBlock, a_blockStamp, a_replicaHeld, a_replicaStamp, a_unitCount, a_unitValue) v') (g_active, g_epoch, a_nodeUp, a_journalUp, a_masterUp, a_touch, a_log, a_many, b_promise, b_base, a_stamp, a_units, a_unit, a_sort, a_placeOf, a_client, b_rowLength, a_row, a_closedWith, a_stampOf) v1 v2 := by
      refine br_t ((ym_act eY hac2).mpr hac) (ym_tellL h7' h4 h5 ?_)
      generalize hQ : (fun (r' : Int32) v' => r' = -2 ∧ i_Rel (k + 4) (f_active, f_epoch, a_dataNodeDown, a_journalDown, a_masterDown, a_inTouch, a_promise, a_base, a_logLength, a_logEpoch, a_logKind, a_logA, a_logB, a_logC, a_inodeState, a_inodePlace, a_inodeClient, a_closeUnits, a_rowLength, a_rowBlock, a_blockStamp, a_replicaHeld, a_replicaStamp, a_unitCount, a_unitValue) v') = post
      have hpost : ∀ v', sy_L L v' → sy_D (nu, st, un, ua) v' → post (-2) v' := by
        intro v' m1 m2
        rw [← hQ]
        exact ⟨rfl, R0 v' m1 m2⟩
      rintro ⟨f_active, f_epoch, a_nodeUp, a_journalUp, a_masterUp, a_touch, a_log, a_many, a_promise, a_base, a_stamp, a_units, a_unit, a_sort, a_placeOf, a_client, a_rowLength, a_row, a_closedWith, a_stampOf⟩ gT gL gD
      have gT := gT hac
      refine ym_isFile (v := (f_active, f_epoch, a_nodeUp, a_journalUp, a_masterUp, a_touch, a_log, a_many, a_promise, a_base, a_stamp, a_units, a_unit, a_sort, a_placeOf, a_client, a_rowLength, a_row, a_closedWith, a_stampOf)) gT h6 hn (fun hlt h2s => br_f bo_1 ?_) (fun z => br_t rfl (hpost _ gL gD))
      have e := ix_i hn hlt
      subst e
      have hv := vp_in_nI hlt (by decide : 12 < 2 ^ 31)
      have hc : (nI n).toNatClampNeg = n := nI_clamp (by omega)
      have hs3 := qt_iv3 h6 n hlt
      refine ⟨hv, cd_if (cd_e (c := 2) (qt_ag1 gT n hlt) (by omega) (by omega) (by decide)) (fun hs => br_f (fun z => hA ⟨hlt, hs, Or.inl z⟩) ⟨hv, br_f (fun z => hA ⟨hlt, hs, Or.inr ?_⟩) (hpost _ gL gD)⟩) (fun hs => hpost _ gL gD)⟩
      rw [hc, qt_ag3 gT n hlt hs] at z
      exact z.symm
    refine br_f (fun z => ha ((xm_act eX hac2).mp z)) (xm_isOpen (u := (f_active, f_epoch, a_dataNodeDown, a_journalDown, a_masterDown, a_inTouch, a_promise, a_base, a_logLength, a_logEpoch, a_logKind, a_logA, a_logB, a_logC, a_inodeState, a_inodePlace, a_inodeClient, a_closeUnits, a_rowLength, a_rowBlock, a_blockStamp, a_replicaHeld, a_replicaStamp, a_unitCount, a_unitValue)) h1 h6 hn (fun hlt hs => br_f bo_1 (br_f (fun z => hA ⟨hlt, hs, Or.inl z⟩) ?_)) (fun z => br_t rfl Y))
    have e := ix_i hn hlt
    subst e
    refine ⟨vp_in_nI hlt (by decide), br_f (fun z => hA ⟨hlt, hs, Or.inr ?_⟩) Y⟩
    rw [nI_clamp (by omega), qt_ag3 h1 n hlt hs] at z
    exact z.symm
end
section
/-! takeover: reading -/
section
variable {T : qt_T} {mu ju : Nat → Bool} {ac ep : Nat} {to : Nat → Bool} {pr ba le : Nat → Nat} {lg : Nat → Nat → qt_R} {nu : Nat → Bool} {st un : Nat → Nat} {ua : Nat → Int32}
theorem xm_countUp {u : SX} (hL : sx_L (mu, ju, ac, ep, to, pr, ba, le, lg) u) {post : Int32 → Prop} (hp : post (nI (rd_cn ju 3))) : wpX_countUpJournals post u := by
  obtain ⟨f_active, f_epoch, a_dataNodeDown, a_journalDown, a_masterDown, a_inTouch, a_promise, a_base, a_logLength, a_logEpoch, a_logKind, a_logA, a_logB, a_logC, a_inodeState, a_inodePlace, a_inodeClient, a_closeUnits, a_rowLength, a_rowBlock, a_blockStamp, a_replicaHeld, a_replicaStamp, a_unitCount, a_unitValue⟩ := u
  refine ⟨4, lq_f (fun n d s => wX_countUpJournals_4 post f_active f_epoch a_dataNodeDown a_journalDown a_masterDown a_inTouch a_promise a_base a_logLength a_logEpoch a_logKind a_logA a_logB a_logC a_inodeState a_inodePlace a_inodeClient a_closeUnits a_rowLength a_rowBlock a_blockStamp a_replicaHeld a_replicaStamp a_unitCount a_unitValue n s (nI d)) 3 (fun d => nI (rd_cn ju d)) (fun n => br_t lb_t hp) (fun n d hd H => ?_) 4 0 (by omega) (by omega)⟩
  refine br_f (lb_f hd) ⟨vp_in_nI hd (by decide), cd_if (cd_n (hL.2.2.1 d hd) (by omega)) (fun z => nm_r (rd_cnT z) (nm_r (nI_1 d) H)) (fun z => nm_r (nI_1 d) ?_)⟩
  rw [← rd_cnF (show ju d = false by simpa using z)]; exact H
theorem xm_greatest {u : SX} (hL : sx_L (mu, ju, ac, ep, to, pr, ba, le, lg) u) (hpr : ∀ j, j < 3 → pr j ≤ 512) {post : Int32 → Prop} (hp : post (nI (lj_gp ju pr 3))) : wpX_greatestPromise post u := by
  obtain ⟨f_active, f_epoch, a_dataNodeDown, a_journalDown, a_masterDown, a_inTouch, a_promise, a_base, a_logLength, a_logEpoch, a_logKind, a_logA, a_logB, a_logC, a_inodeState, a_inodePlace, a_inodeClient, a_closeUnits, a_rowLength, a_rowBlock, a_blockStamp, a_replicaHeld, a_replicaStamp, a_unitCount, a_unitValue⟩ := u
  refine ⟨4, lq_f (fun n d s => wX_greatestPromise_4 post f_active f_epoch a_dataNodeDown a_journalDown a_masterDown a_inTouch a_promise a_base a_logLength a_logEpoch a_logKind a_logA a_logB a_logC a_inodeState a_inodePlace a_inodeClient a_closeUnits a_rowLength a_rowBlock a_blockStamp a_replicaHeld a_replicaStamp a_unitCount a_unitValue n s (nI d)) 3 (fun d => nI (lj_gp ju pr d)) (fun n => br_t lb_t hp) (fun n d hd H => ?_) 4 0 (by omega) (by omega)⟩
  have hg := lj_gpB (ju := ju) hpr (n := d) (by omega)
  have hp1 := hpr d hd
  have ep1 : a_promise (nI d).toNatClampNeg = nI (pr d) := by rw [nI_clamp (by omega)]; exact hL.2.2.2.2.2.1 d hd
  have H' : wX_greatestPromise_4 post f_active f_epoch a_dataNodeDown a_journalDown a_masterDown a_inTouch a_promise a_base a_logLength a_logEpoch a_logKind a_logA a_logB a_logC a_inodeState a_inodePlace a_inodeClient a_closeUnits a_rowLength a_rowBlock a_blockStamp a_replicaHeld a_replicaStamp a_unitCount a_unitValue n (nI (lj_gp ju pr (d + 1))) (nI (d + 1)) := H
  rw [lj_gpS] at H'
  refine br_f (lb_f hd) ⟨vp_in_nI hd (by decide), cd_if (cd_n (hL.2.2.1 d hd) (by omega)) (fun z => ⟨vp_in_nI hd (by decide), ?_⟩) (fun z => nm_r (nI_1 d) ?_)⟩
  · rw [ep1]
    refine cd_if (nI_leI (by omega) (by omega)) (fun y => nm_r (nI_1 d) ?_) (fun y => ⟨vp_in_nI hd (by decide), nm_e (nm_r (nI_1 d) ?_)⟩)
    · rw [if_neg (fun w => by omega)] at H'; exact H'
    · rw [if_pos ⟨z, by omega⟩] at H'; exact H'
  · rw [if_neg (fun w => z w.1)] at H'; exact H'
theorem xm_lastEpoch {u : SX} (hL : sx_L (mu, ju, ac, ep, to, pr, ba, le, lg) u) {post : Int32 → Prop} {j : Nat} (hj : j < 3) (hl : le j ≤ 1000) (hp : post (nI (lj_le le lg j))) : wpX_lastEpoch post u (nI j) := by
  obtain ⟨f_active, f_epoch, a_dataNodeDown, a_journalDown, a_masterDown, a_inTouch, a_promise, a_base, a_logLength, a_logEpoch, a_logKind, a_logA, a_logB, a_logC, a_inodeState, a_inodePlace, a_inodeClient, a_closeUnits, a_rowLength, a_rowBlock, a_blockStamp, a_replicaHeld, a_replicaStamp, a_unitCount, a_unitValue⟩ := u
  have hc : (nI j).toNatClampNeg = j := nI_clamp (by omega)
  have el : a_logLength j = nI (le j) := hL.2.2.2.2.2.2.2.1 j hj
  unfold lj_le at hp
  refine ⟨vp_in_nI hj (by decide), ?_⟩
  rw [hc, el]
  refine cd_if (nI_eq (b := 0) (by omega) (by decide)) (fun z => ?_) (fun z => ⟨vp_in_nI hj (by decide), ?_⟩)
  · rw [if_pos z] at hp; exact hp
  · rw [if_neg z] at hp
    have e : nI j * 1000 + nI (le j) - 1 = nI (1000 * j + (le j - 1)) := by
      rw [show (1000 : Int32) = nI 1000 from rfl, mu_r, show 1000 * j + le j = (1000 * j + (le j - 1)) + 1 by omega, nI_pred]
    rw [e]
    refine ⟨vp_in_nI (by omega) (by decide), ?_⟩
    rw [nI_clamp (by omega), (hL.2.2.2.2.2.2.2.2 j (le j - 1) hj (by omega)).1]
    exact hp
theorem xm_isBetter {u : SX} (hL : sx_L (mu, ju, ac, ep, to, pr, ba, le, lg) u) (hw : ∀ j, j < 3 → qt_wf (lg j) (le j) ∧ le j ≤ 1000) {post : Int32 → Prop} {j i : Nat} (hj : j < 3) (hi : i < 3) (h1 : lj_B le lg j i = true → post 1) (h0 : lj_B le lg j i = false → post 0) : wpX_isBetterLog post u (nI j) (nI i) := by
  obtain ⟨f_active, f_epoch, a_dataNodeDown, a_journalDown, a_masterDown, a_inTouch, a_promise, a_base, a_logLength, a_logEpoch, a_logKind, a_logA, a_logB, a_logC, a_inodeState, a_inodePlace, a_inodeClient, a_closeUnits, a_rowLength, a_rowBlock, a_blockStamp, a_replicaHeld, a_replicaStamp, a_unitCount, a_unitValue⟩ := u
  unfold wpX_isBetterLog
  have w1 := lj_leL (hw j hj).1
  have w2 := lj_leL (hw i hi).1
  have n1 := (hw j hj).2
  have n2 := (hw i hi).2
  have ej : a_logLength (nI j).toNatClampNeg = nI (le j) := by rw [nI_clamp (by omega)]; exact hL.2.2.2.2.2.2.2.1 j hj
  have ei : a_logLength (nI i).toNatClampNeg = nI (le i) := by rw [nI_clamp (by omega)]; exact hL.2.2.2.2.2.2.2.1 i hi
  unfold lj_B at h1 h0
  refine xm_lastEpoch (u := (f_active, f_epoch, a_dataNodeDown, a_journalDown, a_masterDown, a_inTouch, a_promise, a_base, a_logLength, a_logEpoch, a_logKind, a_logA, a_logB, a_logC, a_inodeState, a_inodePlace, a_inodeClient, a_closeUnits, a_rowLength, a_rowBlock, a_blockStamp, a_replicaHeld, a_replicaStamp, a_unitCount, a_unitValue)) hL hj n1 (xm_lastEpoch (u := (f_active, f_epoch, a_dataNodeDown, a_journalDown, a_masterDown, a_inTouch, a_promise, a_base, a_logLength, a_logEpoch, a_logKind, a_logA, a_logB, a_logC, a_inodeState, a_inodePlace, a_inodeClient, a_closeUnits, a_rowLength, a_rowBlock, a_blockStamp, a_replicaHeld, a_replicaStamp, a_unitCount, a_unitValue)) hL hi n2 (cd_if (nI_ltI (by omega) (by omega)) (fun z => h1 (decide_eq_true (Or.inl z))) (fun z => cd_if (nI_eq (by omega) (by omega)) (fun y => ⟨vp_in_nI hj (by decide), vp_in_nI hi (by decide), ?_⟩) (fun y => h0 (decide_eq_false (fun x => by rcases x with x | x; exact z x; exact y x.1))))))
  rw [ej, ei]
  exact cd_if (nI_leI (by omega) (by omega)) (fun x => h0 (decide_eq_false (fun w => by rcases w with w | w; exact z w; omega))) (fun x => h1 (decide_eq_true (Or.inr ⟨y, by omega⟩)))
theorem xm_best {u : SX} (hL : sx_L (mu, ju, ac, ep, to, pr, ba, le, lg) u) (hw : ∀ j, j < 3 → qt_wf (lg j) (le j) ∧ le j ≤ 1000) {post : Int32 → Prop} (hp : post (qt_m (lj_bt (lj_B le lg) ju 3))) : wpX_journalWithBestLog post u := by
  obtain ⟨f_active, f_epoch, a_dataNodeDown, a_journalDown, a_masterDown, a_inTouch, a_promise, a_base, a_logLength, a_logEpoch, a_logKind, a_logA, a_logB, a_logC, a_inodeState, a_inodePlace, a_inodeClient, a_closeUnits, a_rowLength, a_rowBlock, a_blockStamp, a_replicaHeld, a_replicaStamp, a_unitCount, a_unitValue⟩ := u
  refine ⟨4, lq_f (fun n d s => wX_journalWithBestLog_4 post f_active f_epoch a_dataNodeDown a_journalDown a_masterDown a_inTouch a_promise a_base a_logLength a_logEpoch a_logKind a_logA a_logB a_logC a_inodeState a_inodePlace a_inodeClient a_closeUnits a_rowLength a_rowBlock a_blockStamp a_replicaHeld a_replicaStamp a_unitCount a_unitValue n s (nI d)) 3 (fun d => qt_m (lj_bt (lj_B le lg) ju d)) (fun n => br_t lb_t hp) (fun n d hd H => ?_) 4 0 (by omega) (by omega)⟩
  have hbl : lj_bt (lj_B le lg) ju d ≤ d := by rcases lj_btP (B := lj_B le lg) (ju := ju) (n := d) with y | y <;> omega
  have H' : wX_journalWithBestLog_4 post f_active f_epoch a_dataNodeDown a_journalDown a_masterDown a_inTouch a_promise a_base a_logLength a_logEpoch a_logKind a_logA a_logB a_logC a_inodeState a_inodePlace a_inodeClient a_closeUnits a_rowLength a_rowBlock a_blockStamp a_replicaHeld a_replicaStamp a_unitCount a_unitValue n (qt_m (lj_bt (lj_B le lg) ju (d + 1))) (nI (d + 1)) := H
  rw [lj_btS] at H'
  refine br_f (lb_f hd) ⟨vp_in_nI hd (by decide), cd_if (cd_n (hL.2.2.1 d hd) (by omega)) (fun z => cd_if (qt_m0E (by omega)) (fun y => nm_r (nI_1 d) ?_) (fun y => ?_)) (fun z => nm_r (nI_1 d) ?_)⟩
  · rw [if_pos ⟨z, Or.inl y⟩, qt_ms] at H'; exact H'
  · obtain ⟨i, hi⟩ : ∃ i, lj_bt (lj_B le lg) ju d = i + 1 := ⟨lj_bt (lj_B le lg) ju d - 1, by omega⟩
    rw [hi] at H' hbl
    show wpX_isBetterLog _ (f_active, f_epoch, a_dataNodeDown, a_journalDown, a_masterDown, a_inTouch, a_promise, a_base, a_logLength, a_logEpoch, a_logKind, a_logA, a_logB, a_logC, a_inodeState, a_inodePlace, a_inodeClient, a_closeUnits, a_rowLength, a_rowBlock, a_blockStamp, a_replicaHeld, a_replicaStamp, a_unitCount, a_unitValue) (nI d) (qt_m (lj_bt (lj_B le lg) ju d))
    rw [hi, qt_ms]
    refine xm_isBetter (u := (f_active, f_epoch, a_dataNodeDown, a_journalDown, a_masterDown, a_inTouch, a_promise, a_base, a_logLength, a_logEpoch, a_logKind, a_logA, a_logB, a_logC, a_inodeState, a_inodePlace, a_inodeClient, a_closeUnits, a_rowLength, a_rowBlock, a_blockStamp, a_replicaHeld, a_replicaStamp, a_unitCount, a_unitValue)) hL hw hd (by omega) (fun x => br_f bo_1 (nm_r (nI_1 d) ?_)) (fun x => br_t rfl (nm_r (nI_1 d) ?_))
    · rw [if_pos ⟨z, Or.inr x⟩, qt_ms] at H'; exact H'
    · rw [if_neg (fun w => by rcases w.2 with q | q; omega; exact absurd (x.symm.trans q) (by decide)), qt_ms] at H'; exact H'
  · rw [if_neg (fun w => z w.1)] at H'; exact H'
theorem ym_lastEpoch {v : SY} (hL : sy_L (mu, ju, ac, ep, to, pr, ba, le, lg) v) {post : Int32 → Prop} {j : Nat} (hj : j < 3) (hw : qt_wf (lg j) (le j)) (hl : le j ≤ 1000) (hp : post (nI (lj_le le lg j))) : wpY_lastEpoch post v (nI j) := by
  obtain ⟨f_active, f_epoch, a_nodeUp, a_journalUp, a_masterUp, a_touch, a_log, a_many, a_promise, a_base, a_stamp, a_units, a_unit, a_sort, a_placeOf, a_client, a_rowLength, a_row, a_closedWith, a_stampOf⟩ := v
  have hc : (nI j).toNatClampNeg = j := nI_clamp (by omega)
  have el : a_many j = nI (le j) := hL.2.2.2.2.2.2.2.1 j hj
  unfold lj_le at hp
  refine ⟨vp_in_nI hj (by decide), ?_⟩
  rw [hc, el]
  refine cd_if (nI_eq (b := 0) (by omega) (by decide)) (fun z => ?_) (fun z => ⟨vp_in_nI hj (by decide), ?_⟩)
  · rw [if_pos z] at hp; exact hp
  · rw [if_neg z] at hp
    have e : 1001 * nI j + nI (le j) - 1 = nI (1001 * j + (le j - 1)) := by
      rw [show (1001 : Int32) = nI 1001 from rfl, mu_l, show 1001 * j + le j = (1001 * j + (le j - 1)) + 1 by omega, nI_pred]
    rw [e]
    refine ⟨vp_in_nI (by omega) (by decide), ?_⟩
    rw [nI_clamp (by omega), hL.2.2.2.2.2.2.2.2 j (le j - 1) hj (by omega), qt_pkE (qt_okB (hw (le j - 1) (by omega)))]
    exact hp
theorem ym_better {v : SY} (hL : sy_L (mu, ju, ac, ep, to, pr, ba, le, lg) v) (hw : ∀ j, j < 3 → qt_wf (lg j) (le j) ∧ le j ≤ 1000) {post : Int32 → Prop} {j i : Nat} (hj : j < 3) (hi : i < 3) (h1 : lj_B le lg j i = true → post 1) (h0 : lj_B le lg j i = false → post 0) : wpY_better post v (nI j) (nI i) := by
  obtain ⟨f_active, f_epoch, a_nodeUp, a_journalUp, a_masterUp, a_touch, a_log, a_many, a_promise, a_base, a_stamp, a_units, a_unit, a_sort, a_placeOf, a_client, a_rowLength, a_row, a_closedWith, a_stampOf⟩ := v
  unfold wpY_better
  have w1 := lj_leL (hw j hj).1
  have w2 := lj_leL (hw i hi).1
  have n1 := (hw j hj).2
  have n2 := (hw i hi).2
  have ej : a_many (nI j).toNatClampNeg = nI (le j) := by rw [nI_clamp (by omega)]; exact hL.2.2.2.2.2.2.2.1 j hj
  have ei : a_many (nI i).toNatClampNeg = nI (le i) := by rw [nI_clamp (by omega)]; exact hL.2.2.2.2.2.2.2.1 i hi
  unfold lj_B at h1 h0
  refine ym_lastEpoch (v := (f_active, f_epoch, a_nodeUp, a_journalUp, a_masterUp, a_touch, a_log, a_many, a_promise, a_base, a_stamp, a_units, a_unit, a_sort, a_placeOf, a_client, a_rowLength, a_row, a_closedWith, a_stampOf)) hL hj (hw j hj).1 n1 (ym_lastEpoch (v := (f_active, f_epoch, a_nodeUp, a_journalUp, a_masterUp, a_touch, a_log, a_many, a_promise, a_base, a_stamp, a_units, a_unit, a_sort, a_placeOf, a_client, a_rowLength, a_row, a_closedWith, a_stampOf)) hL hi (hw i hi).1 n2 (cd_if (nI_ltI (by omega) (by omega)) (fun z => h1 (decide_eq_true (Or.inl z))) (fun z => cd_if (nI_eq (by omega) (by omega)) (fun y => ⟨vp_in_nI hj (by decide), vp_in_nI hi (by decide), ?_⟩) (fun y => h0 (decide_eq_false (fun x => by rcases x with x | x; exact z x; exact y x.1))))))
  rw [ej, ei]
  exact cd_if (nI_leI (by omega) (by omega)) (fun x => h0 (decide_eq_false (fun w => by rcases w with w | w; exact z w; omega))) (fun x => h1 (decide_eq_true (Or.inr ⟨y, by omega⟩)))
end
end
section
/-! takeover: the logs are copied -/
/-- journals below i have the best log -/
def tk_f {α : Type} (i s : Nat) (ju : Nat → Bool) (f : Nat → α) (j : Nat) : α := if j < i ∧ ju j = true then f s else f j
theorem tk_0 {α : Type} {s : Nat} {ju : Nat → Bool} {f : Nat → α} {j : Nat} : tk_f 0 s ju f j = f j := if_neg (fun z => absurd z.1 (Nat.not_lt_zero _))
theorem tk_3 {α : Type} {s : Nat} {ju : Nat → Bool} {f : Nat → α} {j : Nat} (h : j < 3) : tk_f 3 s ju f j = if ju j = true then f s else f j := by
  unfold tk_f
  by_cases z : ju j = true
  · rw [if_pos ⟨h, z⟩, if_pos z]
  · rw [if_neg (fun y => z y.2), if_neg z]
theorem tk_n {α : Type} {i s : Nat} {ju : Nat → Bool} {f : Nat → α} {j : Nat} (h : j ≠ i ∨ ju j = false) : tk_f (i + 1) s ju f j = tk_f i s ju f j := by
  unfold tk_f
  by_cases z : j < i ∧ ju j = true
  · rw [if_pos z, if_pos ⟨by omega, z.2⟩]
  · rw [if_neg z, if_neg]
    intro y
    rcases h with h | h
    · exact z ⟨by omega, y.2⟩
    · rw [h] at y; exact absurd y.2 (by decide)
theorem tk_t {α : Type} {i s : Nat} {ju : Nat → Bool} {f : Nat → α} (h : ju i = true) : tk_f (i + 1) s ju f i = f s := if_pos ⟨by omega, h⟩
theorem tk_s {α : Type} {i s : Nat} {ju : Nat → Bool} {f : Nat → α} : tk_f i s ju f s = f s := by
  unfold tk_f
  split <;> rfl
section
variable {T : qt_T} {mu ju : Nat → Bool} {ac ep : Nat} {to : Nat → Bool} {pr ba le : Nat → Nat} {lg : Nat → Nat → qt_R} {nu : Nat → Bool} {st un : Nat → Nat} {ua : Nat → Int32}
/-- cells while row t is being written from row s: k records are -/
def tk_c (bd : Nat → Nat) (lf : Nat → Nat → qt_R) (s t k : Nat) (aE aK aA aB aC : Nat → Int32) : Prop :=
  (∀ j q, j < 3 → q < bd j → (j ≠ t ∨ k ≤ q) → lj_ce (lf j q) (aE (1000 * j + q)) (aK (1000 * j + q)) (aA (1000 * j + q)) (aB (1000 * j + q)) (aC (1000 * j + q)))
    ∧ (∀ q, q < k → lj_ce (lf s q) (aE (1000 * t + q)) (aK (1000 * t + q)) (aA (1000 * t + q)) (aB (1000 * t + q)) (aC (1000 * t + q)))
theorem xm_copyLoop {bd : Nat → Nat} {lf : Nat → Nat → qt_R} {s t : Nat} (hs : s < 3) (ht : t < 3) (hbd : ∀ j, j < 3 → bd j ≤ 1000) {post : SX → Prop} {f_active f_epoch : Int32} {a_dataNodeDown a_journalDown a_masterDown a_inTouch a_promise a_base a_logLength a_inodeState a_inodePlace a_inodeClient a_closeUnits a_rowLength a_rowBlock a_blockStamp a_replicaHeld a_replicaStamp a_unitCount a_unitValue : Nat → Int32}
    (hp : ∀ aE aK aA aB aC : Nat → Int32, tk_c bd lf s t (bd s) aE aK aA aB aC → post (f_active, f_epoch, a_dataNodeDown, a_journalDown, a_masterDown, a_inTouch, a_promise, upd a_base t (a_base s), upd a_logLength t (nI (bd s)), aE, aK, aA, aB, aC, a_inodeState, a_inodePlace, a_inodeClient, a_closeUnits, a_rowLength, a_rowBlock, a_blockStamp, a_replicaHeld, a_replicaStamp, a_unitCount, a_unitValue)) :
    ∀ m n k, k + m = bd s → m < n → ∀ aE aK aA aB aC : Nat → Int32, tk_c bd lf s t k aE aK aA aB aC → wX_copyLog_10 post (nI s) (nI t) (nI (bd s)) f_active f_epoch n (nI k) a_dataNodeDown a_journalDown a_masterDown a_inTouch a_promise a_base a_logLength aE aK aA aB aC a_inodeState a_inodePlace a_inodeClient a_closeUnits a_rowLength a_rowBlock a_blockStamp a_replicaHeld a_replicaStamp a_unitCount a_unitValue := by
  have hb := hbd s hs
  have hvs := vp_in_nI hs (by decide : 3 < 2 ^ 31)
  have hvt := vp_in_nI ht (by decide : 3 < 2 ^ 31)
  intro m
  induction m with
  | zero =>
    intro n k hk hn aE aK aA aB aC H
    obtain ⟨n, rfl⟩ : ∃ n', n = n' + 1 := ⟨n - 1, by omega⟩
    have e : k = bd s := by omega
    subst e
    refine br_t lb_t ⟨hvt, nm_e ⟨hvs, hvt, nm_e ?_⟩⟩
    rw [nI_clamp (n := t) (by omega), nI_clamp (n := s) (by omega)]
    exact hp aE aK aA aB aC H
  | succ m ih =>
    intro n k hk hn aE aK aA aB aC H
    obtain ⟨n, rfl⟩ : ∃ n', n = n' + 1 := ⟨n - 1, by omega⟩
    have h1 := vp_in_nI (show 1000 * s + k < 3000 by omega) (by decide : 3000 < 2 ^ 31)
    have h2 := vp_in_nI (show 1000 * t + k < 3000 by omega) (by decide : 3000 < 2 ^ 31)
    have c1 : (nI (1000 * s + k)).toNatClampNeg = 1000 * s + k := nI_clamp (by omega)
    have c2 : (nI (1000 * t + k)).toNatClampNeg = 1000 * t + k := nI_clamp (by omega)
    refine br_f (lb_f (by omega) (by omega)) (nm_r (mu_r s 1000 k) (nm_r (mu_r t 1000 k) ⟨h1, h2, nm_e ⟨h1, h2, nm_e ⟨h1, h2, nm_e ⟨h1, h2, nm_e ⟨h1, h2, nm_e (nm_r (nI_1 k) ?_)⟩⟩⟩⟩⟩))
    rw [c1, c2]
    refine ih n (k + 1) (by omega) (by omega) _ _ _ _ _ ⟨fun j q hj hq ho => ?_, fun q hq => ?_⟩
    · have hq2 := hbd j hj
      have hne : 1000 * j + q ≠ 1000 * t + k := by omega
      rw [pk_un hne, pk_un hne, pk_un hne, pk_un hne, pk_un hne]
      exact H.1 j q hj hq (by omega)
    · by_cases z : q = k
      · subst z
        rw [pk_us, pk_us, pk_us, pk_us, pk_us]
        exact H.1 s q hs (by omega) (by omega)
      · rw [pk_un (by omega), pk_un (by omega), pk_un (by omega), pk_un (by omega), pk_un (by omega)]
        exact H.2 q (by omega)
/-- the state within the loop of takeover: i journals have been asked -/
def tk_x (i s E : Nat) (ju to : Nat → Bool) (pr ba le : Nat → Nat) (lg : Nat → Nat → qt_R) (aI aP aB aN aE aK aA aB' aC : Nat → Int32) : Prop :=
  (∀ j, j < 3 → aI j = bo_p (if j < i then ju j else to j)) ∧ (∀ j, j < 3 → aP j = nI (if j < i ∧ ju j = true then E else pr j)) ∧ (∀ j, j < 3 → aB j = nI (tk_f i s ju ba j)) ∧ (∀ j, j < 3 → aN j = nI (tk_f i s ju le j))
    ∧ (∀ j q, j < 3 → q < tk_f i s ju le j → lj_ce (tk_f i s ju lg j q) (aE (1000 * j + q)) (aK (1000 * j + q)) (aA (1000 * j + q)) (aB' (1000 * j + q)) (aC (1000 * j + q)))
theorem xm_takeLoop {u : SX} (h : sx_T T u) (hL : sx_L (mu, ju, ac, ep, to, pr, ba, le, lg) u) (hD : sx_D (nu, st, un, ua) u) {s E m0 : Nat} (hs : s < 3) (hm0 : m0 < 2) (hw : ∀ j, j < 3 → qt_wf (lg j) (le j) ∧ le j ≤ 1000) (hjs : ju s = true) {post : Int32 → SX → Prop}
    (hp : ∀ u', sx_T (qt_ab (lg s) (le s)) u' → sx_L (mu, ju, m0 + 1, E, ju, (fun j => if ju j = true then E else pr j), (fun j => if ju j = true then ba s else ba j), (fun j => if ju j = true then le s else le j), (fun j => if ju j = true then lg s else lg j)) u' → sx_D (nu, st, un, ua) u' → post (nI E) u') :
    ∀ f_active f_epoch a_dataNodeDown a_journalDown a_masterDown a_inTouch a_promise a_base a_logLength a_logEpoch a_logKind a_logA a_logB a_logC a_inodeState a_inodePlace a_inodeClient a_closeUnits a_rowLength a_rowBlock a_blockStamp a_replicaHeld a_replicaStamp a_unitCount a_unitValue, u = (f_active, f_epoch, a_dataNodeDown, a_journalDown, a_masterDown, a_inTouch, a_promise, a_base, a_logLength, a_logEpoch, a_logKind, a_logA, a_logB, a_logC, a_inodeState, a_inodePlace, a_inodeClient, a_closeUnits, a_rowLength, a_rowBlock, a_blockStamp, a_replicaHeld, a_replicaStamp, a_unitCount, a_unitValue) → ∃ n, wX_takeover_46 post (nI m0) (nI s) n 0 f_active (nI E) a_dataNodeDown a_journalDown a_masterDown a_inTouch a_promise a_base a_logLength a_logEpoch a_logKind a_logA a_logB a_logC a_inodeState a_inodePlace a_inodeClient a_closeUnits a_rowLength a_rowBlock a_blockStamp a_replicaHeld a_replicaStamp a_unitCount a_unitValue := by
  intro f_active f_epoch a_dataNodeDown a_journalDown a_masterDown a_inTouch a_promise a_base a_logLength a_logEpoch a_logKind a_logA a_logB a_logC a_inodeState a_inodePlace a_inodeClient a_closeUnits a_rowLength a_rowBlock a_blockStamp a_replicaHeld a_replicaStamp a_unitCount a_unitValue eu
  subst eu
  obtain ⟨l1, l2, l3, l4, l5, l6, l7, l8, l9⟩ := hL
  obtain ⟨d1, d2, d3, d4, d5⟩ := hD
  have h' : qt_ag True T a_inodeState a_inodePlace a_inodeClient a_closeUnits a_rowLength a_rowBlock a_blockStamp := h
  have hbd : ∀ i j, j < 3 → tk_f i s ju le j ≤ 1000 := by
    intro i j hj
    unfold tk_f
    split
    · exact (hw s hs).2
    · exact (hw j hj).2
  have key : ∀ m n i, i + m = 3 → m < n → ∀ aI aP aB aN aE aK aA aB' aC : Nat → Int32, tk_x i s E ju to pr ba le lg aI aP aB aN aE aK aA aB' aC → wX_takeover_46 post (nI m0) (nI s) n (nI i) f_active (nI E) a_dataNodeDown a_journalDown a_masterDown aI aP aB aN aE aK aA aB' aC a_inodeState a_inodePlace a_inodeClient a_closeUnits a_rowLength a_rowBlock a_blockStamp a_replicaHeld a_replicaStamp a_unitCount a_unitValue := by
    intro m
    induction m with
    | zero =>
      intro n i hi hn aI aP aB aN aE aK aA aB' aC H
      obtain ⟨n, rfl⟩ : ∃ n', n = n' + 1 := ⟨n - 1, by omega⟩
      have e : i = 3 := by omega
      subst e
      obtain ⟨t1, t2, t3, t4, t5⟩ := H
      have hLn : sx_L (mu, ju, m0 + 1, E, ju, (fun j => if ju j = true then E else pr j), (fun j => if ju j = true then ba s else ba j), (fun j => if ju j = true then le s else le j), (fun j => if ju j = true then lg s else lg j)) ((nI m0), (nI E), a_dataNodeDown, a_journalDown, a_masterDown, aI, aP, aB, aN, aE, aK, aA, aB', aC, a_inodeState, a_inodePlace, a_inodeClient, a_closeUnits, a_rowLength, a_rowBlock, a_blockStamp, a_replicaHeld, a_replicaStamp, a_unitCount, a_unitValue) := by
        refine ⟨(qt_ms m0).symm, rfl, l3, l4, ?_, ?_, ?_, ?_, ?_⟩
        · intro j hj; rw [t1 j hj, if_pos hj]
        · intro j hj
          rw [t2 j hj]
          dsimp only
          by_cases z : ju j = true
          · rw [if_pos ⟨hj, z⟩, if_pos z]
          · rw [if_neg (fun y => z y.2), if_neg z]
        · intro j hj; rw [t3 j hj, tk_3 hj]
        · intro j hj; rw [t4 j hj, tk_3 hj]
        · intro j q hj hq
          have := t5 j q hj (by rw [tk_3 hj]; exact hq)
          rw [tk_3 hj] at this
          exact this
      refine br_t lb_t (xm_replayLog (u := ((nI m0), (nI E), a_dataNodeDown, a_journalDown, a_masterDown, aI, aP, aB, aN, aE, aK, aA, aB', aC, a_inodeState, a_inodePlace, a_inodeClient, a_closeUnits, a_rowLength, a_rowBlock, a_blockStamp, a_replicaHeld, a_replicaStamp, a_unitCount, a_unitValue)) hLn ⟨d1, d2, d3, d4, d5⟩ hs ?_ ?_ ?_)
      · show (if ju s = true then le s else le s) ≤ 1000
        rw [if_pos hjs]; exact (hw s hs).2
      · show qt_wf (if ju s = true then lg s else lg s) (if ju s = true then le s else le s)
        rw [if_pos hjs, if_pos hjs]; exact (hw s hs).1
      · rintro ⟨f_active, f_epoch, a_dataNodeDown, a_journalDown, a_masterDown, a_inTouch, a_promise, a_base, a_logLength, a_logEpoch, a_logKind, a_logA, a_logB, a_logC, a_inodeState, a_inodePlace, a_inodeClient, a_closeUnits, a_rowLength, a_rowBlock, a_blockStamp, a_replicaHeld, a_replicaStamp, a_unitCount, a_unitValue⟩ g1 g2 g3
        rw [if_pos hjs, if_pos hjs] at g1
        have e2 : f_epoch = nI E := g2.2.1
        have := hp _ g1 g2 g3
        rw [← e2] at this
        exact this
    | succ m ih =>
      intro n i hi hn aI aP aB aN aE aK aA aB' aC H
      obtain ⟨n, rfl⟩ : ∃ n', n = n' + 1 := ⟨n - 1, by omega⟩
      have hi3 : i < 3 := by omega
      have hv := vp_in_nI hi3 (by decide : 3 < 2 ^ 31)
      have hc : (nI i).toNatClampNeg = i := nI_clamp (by omega)
      obtain ⟨t1, t2, t3, t4, t5⟩ := H
      have hT1 : ∀ x : Bool, x = ju i → ∀ j, j < 3 → upd aI i (bo_p x) j = bo_p (if j < i + 1 then ju j else to j) := by
        intro x hx j hj
        by_cases z : j = i
        · subst z; rw [pk_us, if_pos (by omega), hx]
        · rw [pk_un z, t1 j hj]
          by_cases y : j < i
          · rw [if_pos y, if_pos (by omega)]
          · rw [if_neg y, if_neg (by omega)]
      refine br_f (lb_f hi3) ⟨hv, cd_if (cd_n (l3 i hi3) (by omega)) (fun hu => ?_) (fun hu => ?_)⟩
      · refine ⟨hv, nm_e ⟨hv, ?_⟩⟩
        rw [hc, show vp_nar .boolean 1 = bo_p true from rfl]
        refine br_f (by rw [pk_us]; decide) ⟨hv, nm_e ?_⟩
        have ls : aN (nI s).toNatClampNeg = nI (tk_f i s ju le s) := by rw [nI_clamp (by omega)]; exact t4 s hs
        refine ⟨vp_in_nI hs (by decide), nm_r ls ⟨tk_f i s ju le s + 1, xm_copyLoop (bd := tk_f i s ju le) (lf := tk_f i s ju lg) hs hi3 (hbd i) ?_ (tk_f i s ju le s) _ 0 (by omega) (by omega) aE aK aA aB' aC ⟨fun j q hj hq _ => t5 j q hj hq, fun q hq => by omega⟩⟩⟩
        intro bE bK bA bB bC HC
        refine nm_r (nI_1 i) (ih n (i + 1) (by omega) (by omega) _ _ _ _ _ _ _ _ _ ⟨hT1 true hu.symm, ?_, ?_, ?_, ?_⟩)
        · intro j hj
          by_cases z : j = i
          · subst z; rw [pk_us, if_pos ⟨by omega, hu⟩]
          · rw [pk_un z, t2 j hj]
            by_cases y : j < i ∧ ju j = true
            · rw [if_pos y, if_pos ⟨by omega, y.2⟩]
            · rw [if_neg y, if_neg (fun w => y ⟨by omega, w.2⟩)]
        · intro j hj
          by_cases z : j = i
          · subst z; rw [pk_us, tk_t hu, t3 s hs, tk_s]
          · rw [pk_un z, tk_n (Or.inl z)]; exact t3 j hj
        · intro j hj
          by_cases z : j = i
          · subst z; rw [pk_us, tk_t hu, tk_s]
          · rw [pk_un z, tk_n (Or.inl z)]; exact t4 j hj
        · intro j q hj hq
          by_cases z : j = i
          · subst z
            rw [tk_t hu] at hq ⊢
            have := HC.2 q (by rw [tk_s]; exact hq)
            rw [tk_s] at this
            exact this
          · rw [tk_n (Or.inl z)] at hq ⊢
            exact HC.1 j q hj hq (Or.inl z)
      · have hu' : ju i = false := by simpa using hu
        refine ⟨hv, nm_e ⟨hv, ?_⟩⟩
        rw [hc, show vp_nar .boolean 0 = bo_p false from rfl]
        refine br_t (by rw [pk_us]; rfl) (nm_r (nI_1 i) (ih n (i + 1) (by omega) (by omega) _ _ _ _ _ _ _ _ _ ⟨hT1 false hu'.symm, ?_, ?_, ?_, ?_⟩))
        · intro j hj
          rw [t2 j hj]
          by_cases y : j < i ∧ ju j = true
          · rw [if_pos y, if_pos ⟨by omega, y.2⟩]
          · rw [if_neg y, if_neg]
            intro w
            by_cases z : j = i
            · rw [z, hu'] at w; exact absurd w.2 (by decide)
            · exact y ⟨by omega, w.2⟩
        · intro j hj
          rw [tk_n (by by_cases z : j = i; exact Or.inr (by rw [z]; exact hu'); exact Or.inl z)]; exact t3 j hj
        · intro j hj
          rw [tk_n (by by_cases z : j = i; exact Or.inr (by rw [z]; exact hu'); exact Or.inl z)]; exact t4 j hj
        · intro j q hj hq
          have e : ∀ {α : Type} (f : Nat → α), tk_f (i + 1) s ju f j = tk_f i s ju f j := fun f => tk_n (by by_cases z : j = i; exact Or.inr (by rw [z]; exact hu'); exact Or.inl z)
          rw [e] at hq ⊢
          exact t5 j q hj hq
  refine ⟨4, key 3 4 0 (by omega) (by omega) _ _ _ _ _ _ _ _ _ ⟨?_, ?_, ?_, ?_, ?_⟩⟩
  · intro j hj; rw [if_neg (by omega)]; exact l5 j hj
  · intro j hj; rw [if_neg (by omega)]; exact l6 j hj
  · intro j hj; rw [tk_0]; exact l7 j hj
  · intro j hj; rw [tk_0]; exact l8 j hj
  · intro j q hj hq
    rw [tk_0] at hq ⊢
    exact l9 j q hj hq
end
end
section
/-! takeover: the reference, and both -/
section
variable {T : qt_T} {mu ju : Nat → Bool} {ac ep : Nat} {to : Nat → Bool} {pr ba le : Nat → Nat} {lg : Nat → Nat → qt_R} {nu : Nat → Bool} {st un : Nat → Nat} {ua : Nat → Int32}
def tk_d (bd : Nat → Nat) (lf : Nat → Nat → qt_R) (s t k : Nat) (aG : Nat → Int64) : Prop :=
  (∀ j q, j < 3 → q < bd j → (j ≠ t ∨ k ≤ q) → aG (1001 * j + q) = lN (qt_pk (lf j q))) ∧ (∀ q, q < k → aG (1001 * t + q) = lN (qt_pk (lf s q)))
theorem ym_followLoop {bd : Nat → Nat} {lf : Nat → Nat → qt_R} {s t : Nat} (hs : s < 3) (ht : t < 3) (hbd : ∀ j, j < 3 → bd j ≤ 1000) {post : SY → Prop} {f_active f_epoch : Int32} {a_nodeUp a_journalUp a_masterUp a_touch a_many a_promise a_base a_stamp a_units a_unit a_sort a_placeOf a_client a_rowLength a_row a_closedWith a_stampOf : Nat → Int32} (hms : a_many s = nI (bd s))
    (hp : ∀ aG : Nat → Int64, tk_d bd lf s t (bd s) aG → post (f_active, f_epoch, a_nodeUp, a_journalUp, a_masterUp, a_touch, aG, a_many, a_promise, a_base, a_stamp, a_units, a_unit, a_sort, a_placeOf, a_client, a_rowLength, a_row, a_closedWith, a_stampOf)) :
    ∀ m n k, k + m = bd s → m < n → ∀ aG : Nat → Int64, tk_d bd lf s t k aG → wY_follow_36 post (nI t) (nI s) f_active f_epoch n (nI k) a_nodeUp a_journalUp a_masterUp a_touch aG a_many a_promise a_base a_stamp a_units a_unit a_sort a_placeOf a_client a_rowLength a_row a_closedWith a_stampOf := by
  have hb := hbd s hs
  have hvs := vp_in_nI hs (by decide : 3 < 2 ^ 31)
  intro m
  induction m with
  | zero =>
    intro n k hk hn aG H
    obtain ⟨n, rfl⟩ : ∃ n', n = n' + 1 := ⟨n - 1, by omega⟩
    have e : k = bd s := by omega
    subst e
    exact ⟨hvs, br_t ((cd_ge hms (by omega) (by omega) (by omega)).mpr (Nat.le_refl _)) (hp aG H)⟩
  | succ m ih =>
    intro n k hk hn aG H
    obtain ⟨n, rfl⟩ : ∃ n', n = n' + 1 := ⟨n - 1, by omega⟩
    refine ⟨hvs, br_f ((not_congr (cd_ge hms (by omega) (by omega) (by omega))).mpr (by omega)) ?_⟩
    rw [show 1001 * nI s + nI k = nI (1001 * s + k) from mu_l s 1001 k, show 1001 * nI t + nI k = nI (1001 * t + k) from mu_l t 1001 k]
    refine ⟨vp_in_nI (by omega) (by decide), vp_in_nI (by omega) (by decide), nm_e (nm_r (nI_1 k) ?_)⟩
    rw [nI_clamp (n := 1001 * s + k) (by omega), nI_clamp (n := 1001 * t + k) (by omega)]
    refine ih n (k + 1) (by omega) (by omega) _ ⟨fun j q hj hq ho => ?_, fun q hq => ?_⟩
    · have hq2 := hbd j hj
      rw [pk_uLn (by omega)]
      exact H.1 j q hj hq (by omega)
    · by_cases z : q = k
      · subst z
        rw [pk_uLs]
        exact H.1 s q hs (by omega) (by omega)
      · rw [pk_uLn (by omega)]
        exact H.2 q (by omega)
def tk_y (i s E : Nat) (ju to : Nat → Bool) (pr ba le : Nat → Nat) (lg : Nat → Nat → qt_R) (aI aP aB aN : Nat → Int32) (aG : Nat → Int64) : Prop :=
  (∀ j, j < 3 → aI j = bo_p (if j < i then ju j else to j)) ∧ (∀ j, j < 3 → aP j = nI (if j < i ∧ ju j = true then E else pr j)) ∧ (∀ j, j < 3 → aB j = nI (tk_f i s ju ba j)) ∧ (∀ j, j < 3 → aN j = nI (tk_f i s ju le j))
    ∧ (∀ j q, j < 3 → q < tk_f i s ju le j → aG (1001 * j + q) = lN (qt_pk (tk_f i s ju lg j q)))
theorem ym_takeLoop {v : SY} (hL : sy_L (mu, ju, ac, ep, to, pr, ba, le, lg) v) (hD : sy_D (nu, st, un, ua) v) {s E m0 : Nat} (hs : s < 3) (hw : ∀ j, j < 3 → qt_wf (lg j) (le j) ∧ le j ≤ 1000) {post : Int32 → SY → Prop}
    (hp : ∀ v', sy_L (mu, ju, m0 + 1, E, ju, (fun j => if ju j = true then E else pr j), (fun j => if ju j = true then ba s else ba j), (fun j => if ju j = true then le s else le j), (fun j => if ju j = true then lg s else lg j)) v' → sy_D (nu, st, un, ua) v' → post (nI E) v') :
    ∀ f_active f_epoch a_nodeUp a_journalUp a_masterUp a_touch a_log a_many a_promise a_base a_stamp a_units a_unit a_sort a_placeOf a_client a_rowLength a_row a_closedWith a_stampOf, v = (f_active, f_epoch, a_nodeUp, a_journalUp, a_masterUp, a_touch, a_log, a_many, a_promise, a_base, a_stamp, a_units, a_unit, a_sort, a_placeOf, a_client, a_rowLength, a_row, a_closedWith, a_stampOf) → ∃ n, wY_takeover_115 post (nI m0) (nI s) n 0 f_active (nI E) a_nodeUp a_journalUp a_masterUp a_touch a_log a_many a_promise a_base a_stamp a_units a_unit a_sort a_placeOf a_client a_rowLength a_row a_closedWith a_stampOf := by
  intro f_active f_epoch a_nodeUp a_journalUp a_masterUp a_touch a_log a_many a_promise a_base a_stamp a_units a_unit a_sort a_placeOf a_client a_rowLength a_row a_closedWith a_stampOf ev
  subst ev
  obtain ⟨l1, l2, l3, l4, l5, l6, l7, l8, l9⟩ := hL
  obtain ⟨d1, d2, d3, d4⟩ := hD
  have hbd : ∀ i j, j < 3 → tk_f i s ju le j ≤ 1000 := by
    intro i j hj
    unfold tk_f
    split
    · exact (hw s hs).2
    · exact (hw j hj).2
  have key : ∀ m n i, i + m = 3 → m < n → ∀ (aI aP aB aN : Nat → Int32) (aG : Nat → Int64), tk_y i s E ju to pr ba le lg aI aP aB aN aG → wY_takeover_115 post (nI m0) (nI s) n (nI i) f_active (nI E) a_nodeUp a_journalUp a_masterUp aI aG aN aP aB a_stamp a_units a_unit a_sort a_placeOf a_client a_rowLength a_row a_closedWith a_stampOf := by
    intro m
    induction m with
    | zero =>
      intro n i hi hn aI aP aB aN aG H
      obtain ⟨n, rfl⟩ : ∃ n', n = n' + 1 := ⟨n - 1, by omega⟩
      have e : i = 3 := by omega
      subst e
      obtain ⟨t1, t2, t3, t4, t5⟩ := H
      refine br_t lb_t (hp _ ⟨(qt_ms m0).symm, rfl, l3, l4, ?_, ?_, ?_, ?_, ?_⟩ ⟨d1, d2, d3, d4⟩)
      · intro j hj; rw [t1 j hj, if_pos hj]
      · intro j hj
        rw [t2 j hj]
        dsimp only
        by_cases z : ju j = true
        · rw [if_pos ⟨hj, z⟩, if_pos z]
        · rw [if_neg (fun y => z y.2), if_neg z]
      · intro j hj; rw [t3 j hj, tk_3 hj]
      · intro j hj; rw [t4 j hj, tk_3 hj]
      · intro j q hj hq
        have := t5 j q hj (by rw [tk_3 hj]; exact hq)
        rw [tk_3 hj] at this
        exact this
    | succ m ih =>
      intro n i hi hn aI aP aB aN aG H
      obtain ⟨n, rfl⟩ : ∃ n', n = n' + 1 := ⟨n - 1, by omega⟩
      have hi3 : i < 3 := by omega
      have hv := vp_in_nI hi3 (by decide : 3 < 2 ^ 31)
      have hvs := vp_in_nI hs (by decide : 3 < 2 ^ 31)
      have hc : (nI i).toNatClampNeg = i := nI_clamp (by omega)
      have hcs : (nI s).toNatClampNeg = s := nI_clamp (by omega)
      obtain ⟨t1, t2, t3, t4, t5⟩ := H
      have hT1 : ∀ j, j < 3 → upd aI i (bo_p (ju i)) j = bo_p (if j < i + 1 then ju j else to j) := by
        intro j hj
        by_cases z : j = i
        · subst z; rw [pk_us, if_pos (by omega)]
        · rw [pk_un z, t1 j hj]
          by_cases y : j < i
          · rw [if_pos y, if_pos (by omega)]
          · rw [if_neg y, if_neg (by omega)]
      refine br_f (lb_f hi3) ⟨hv, hv, nm_e ⟨hv, ?_⟩⟩
      rw [hc, l3 i hi3, bo_vp]
      refine cd_if bo_p0 (fun hu' => nm_r (nI_1 i) (ih n (i + 1) (by omega) (by omega) _ _ _ _ _ ⟨hT1, ?_, ?_, ?_, ?_⟩)) (fun hu => ?_)
      · intro j hj
        rw [t2 j hj]
        by_cases y : j < i ∧ ju j = true
        · rw [if_pos y, if_pos ⟨by omega, y.2⟩]
        · rw [if_neg y, if_neg]
          intro w
          by_cases z : j = i
          · rw [z, hu'] at w; exact absurd w.2 (by decide)
          · exact y ⟨by omega, w.2⟩
      · intro j hj
        rw [tk_n (by by_cases z : j = i; exact Or.inr (by rw [z]; exact hu'); exact Or.inl z)]; exact t3 j hj
      · intro j hj
        rw [tk_n (by by_cases z : j = i; exact Or.inr (by rw [z]; exact hu'); exact Or.inl z)]; exact t4 j hj
      · intro j q hj hq
        have e : ∀ {α : Type} (f : Nat → α), tk_f (i + 1) s ju f j = tk_f i s ju f j := fun f => tk_n (by by_cases z : j = i; exact Or.inr (by rw [z]; exact hu'); exact Or.inl z)
        rw [e] at hq ⊢
        exact t5 j q hj hq
      · have hu : ju i = true := by simpa using hu
        refine ⟨hv, nm_e ⟨hvs, hv, nm_e ⟨hvs, hv, nm_e ?_⟩⟩⟩
        rw [hc, hcs, t4 s hs, t3 s hs, tk_s, tk_s]
        have hms : upd aN i (nI (le s)) s = nI (tk_f i s ju le s) := by
          by_cases z : s = i
          · subst z; rw [pk_us, tk_s]
          · rw [pk_un z]; exact t4 s hs
        refine ⟨tk_f i s ju le s + 1, ym_followLoop (bd := tk_f i s ju le) (lf := tk_f i s ju lg) hs hi3 (hbd i) hms ?_ (tk_f i s ju le s) _ 0 (by omega) (by omega) aG ⟨fun j q hj hq _ => t5 j q hj hq, fun q hq => by omega⟩⟩
        intro bG HC
        refine nm_r (nI_1 i) (ih n (i + 1) (by omega) (by omega) _ _ _ _ _ ⟨hT1, ?_, ?_, ?_, ?_⟩)
        · intro j hj
          by_cases z : j = i
          · subst z; rw [pk_us, if_pos ⟨by omega, hu⟩]
          · rw [pk_un z, t2 j hj]
            by_cases y : j < i ∧ ju j = true
            · rw [if_pos y, if_pos ⟨by omega, y.2⟩]
            · rw [if_neg y, if_neg (fun w => y ⟨by omega, w.2⟩)]
        · intro j hj
          by_cases z : j = i
          · subst z; rw [pk_us, tk_t hu]
          · rw [pk_un z, tk_n (Or.inl z)]; exact t3 j hj
        · intro j hj
          by_cases z : j = i
          · subst z; rw [pk_us, tk_t hu]
          · rw [pk_un z, tk_n (Or.inl z)]; exact t4 j hj
        · intro j q hj hq
          by_cases z : j = i
          · subst z
            rw [tk_t hu] at hq ⊢
            have := HC.2 q (by rw [tk_s]; exact hq)
            rw [tk_s] at this
            exact this
          · rw [tk_n (Or.inl z)] at hq ⊢
            exact HC.1 j q hj hq (Or.inl z)
  refine ⟨4, key 3 4 0 (by omega) (by omega) _ _ _ _ _ ⟨?_, ?_, ?_, ?_, ?_⟩⟩
  · intro j hj; rw [if_neg (by omega)]; exact l5 j hj
  · intro j hj; rw [if_neg (by omega)]; exact l6 j hj
  · intro j hj; rw [tk_0]; exact l7 j hj
  · intro j hj; rw [tk_0]; exact l8 j hj
  · intro j q hj hq
    rw [tk_0] at hq ⊢
    exact l9 j q hj hq
theorem ym_takeover {v : SY} (hL : sy_L (mu, ju, ac, ep, to, pr, ba, le, lg) v) (hD : sy_D (nu, st, un, ua) v) (hpr : ∀ j, j < 3 → pr j ≤ 512) (hw : ∀ j, j < 3 → qt_wf (lg j) (le j) ∧ le j ≤ 1000) {post : Int32 → SY → Prop} {p : Int32} {m : Nat} (hm : ix_c p 2 m)
    (h0 : ¬ (m < 2 ∧ mu m = true ∧ 2 ≤ rd_cn ju 3) → post (-2) v)
    (h1 : m < 2 → mu m = true → 2 ≤ rd_cn ju 3 → ∀ v', sy_L (lj_tk (mu, ju, ac, ep, to, pr, ba, le, lg) m) v' → sy_D (nu, st, un, ua) v' → post (nI (lj_gp ju pr 3 + 1)) v') : wpY_takeover post v p := by
  obtain ⟨f_active, f_epoch, a_nodeUp, a_journalUp, a_masterUp, a_touch, a_log, a_many, a_promise, a_base, a_stamp, a_units, a_unit, a_sort, a_placeOf, a_client, a_rowLength, a_row, a_closedWith, a_stampOf⟩ := v
  unfold wpY_takeover
  refine ym_in hm (by decide) rfl (fun hlt => br_f bo_1 ?_) (fun e => br_t rfl (h0 (fun z => by omega)))
  have e := ix_i hm hlt
  subst e
  refine ⟨vp_in_nI hlt (by decide), cd_if (cd_p (hL.2.2.2.1 m hlt) (by omega)) (fun z => h0 (fun y => absurd (z.symm.trans y.2.1) (by decide))) (fun z => ?_)⟩
  have zm : mu m = true := by simpa using z
  refine ⟨4, lq_f (fun n d (s : Int32 × Int32 × Int32) => wY_takeover_30 post (nI m) f_active f_epoch a_nodeUp a_journalUp a_masterUp a_touch a_log a_many a_promise a_base a_stamp a_units a_unit a_sort a_placeOf a_client a_rowLength a_row a_closedWith a_stampOf n s.1 s.2.1 s.2.2 (nI d)) 3 (fun d => (nI (rd_cn ju d), qt_m (lj_bt (lj_B le lg) ju d), nI (lj_gp ju pr d))) (fun n => br_t lb_t ?_) (fun n d hd H => ?_) 4 0 (by omega) (by omega)⟩
  · have hcn := rd_cnL ju 3
    refine cd_if (nI_leI (a := 2) (by decide) (by omega)) (fun y => nm_r (nI_1 _) ?_) (fun y => h0 (fun x => y x.2.2))
    obtain ⟨s1, s2, s3⟩ := lj_sP (le := le) (lg := lg) (lj_cn2 y)
    show ∃ n, wY_takeover_115 post (nI m) (qt_m (lj_bt (lj_B le lg) ju 3)) n 0 f_active (nI (lj_gp ju pr 3 + 1)) a_nodeUp a_journalUp a_masterUp a_touch a_log a_many a_promise a_base a_stamp a_units a_unit a_sort a_placeOf a_client a_rowLength a_row a_closedWith a_stampOf
    rw [s3, qt_ms]
    exact ym_takeLoop (v := (f_active, f_epoch, a_nodeUp, a_journalUp, a_masterUp, a_touch, a_log, a_many, a_promise, a_base, a_stamp, a_units, a_unit, a_sort, a_placeOf, a_client, a_rowLength, a_row, a_closedWith, a_stampOf)) hL hD s1 hw (h1 hlt zm y) _ _ _ _ _ _ _ _ _ _ _ _ _ _ _ _ _ _ _ _ rfl
  · have hg := lj_gpB (ju := ju) hpr (n := d) (by omega)
    have hp1 := hpr d hd
    have hbl : lj_bt (lj_B le lg) ju d ≤ d := by rcases lj_btP (B := lj_B le lg) (ju := ju) (n := d) with y | y <;> omega
    have ep1 : a_promise (nI d).toNatClampNeg = nI (pr d) := by rw [nI_clamp (by omega)]; exact hL.2.2.2.2.2.1 d hd
    have H' : wY_takeover_30 post (nI m) f_active f_epoch a_nodeUp a_journalUp a_masterUp a_touch a_log a_many a_promise a_base a_stamp a_units a_unit a_sort a_placeOf a_client a_rowLength a_row a_closedWith a_stampOf n (nI (rd_cn ju (d + 1))) (qt_m (lj_bt (lj_B le lg) ju (d + 1))) (nI (lj_gp ju pr (d + 1))) (nI (d + 1)) := H
    refine br_f (lb_f hd) ⟨vp_in_nI hd (by decide), cd_if (cd_p (hL.2.2.1 d hd) (by omega)) (fun z => nm_r (nI_1 d) ?_) (fun z => ?_)⟩
    · rw [lj_btS, lj_gpS, rd_cnF z, if_neg (fun w => absurd (z.symm.trans w.1) (by decide)), if_neg (fun w => absurd (z.symm.trans w.1) (by decide))] at H'
      exact H'
    · have z' : ju d = true := by simpa using z
      have s73 : ∀ g, lj_gp ju pr (d + 1) = g → wY_takeover_73 post (wY_takeover_30 post (nI m) f_active f_epoch a_nodeUp a_journalUp a_masterUp a_touch a_log a_many a_promise a_base a_stamp a_units a_unit a_sort a_placeOf a_client a_rowLength a_row a_closedWith a_stampOf n) (nI m) (nI (rd_cn ju (d + 1))) (qt_m (lj_bt (lj_B le lg) ju d)) (nI g) (nI d) f_active f_epoch a_nodeUp a_journalUp a_masterUp a_touch a_log a_many a_promise a_base a_stamp a_units a_unit a_sort a_placeOf a_client a_rowLength a_row a_closedWith a_stampOf := by
        intro g hgg
        rw [hgg, lj_btS] at H'
        refine cd_if (qt_mZ (by omega)) (fun y => nm_r (nI_1 d) ?_) (fun y => ?_)
        · rw [if_pos ⟨z', Or.inl y⟩, qt_ms] at H'; exact H'
        · obtain ⟨i, hi⟩ : ∃ i, lj_bt (lj_B le lg) ju d = i + 1 := ⟨lj_bt (lj_B le lg) ju d - 1, by omega⟩
          rw [hi] at H' hbl ⊢
          rw [qt_ms]
          refine ym_better (v := (f_active, f_epoch, a_nodeUp, a_journalUp, a_masterUp, a_touch, a_log, a_many, a_promise, a_base, a_stamp, a_units, a_unit, a_sort, a_placeOf, a_client, a_rowLength, a_row, a_closedWith, a_stampOf)) hL hw hd (by omega) (fun x => br_f bo_1 (nm_r (nI_1 d) ?_)) (fun x => br_t rfl (nm_r (nI_1 d) ?_))
          · rw [if_pos ⟨z', Or.inr x⟩, qt_ms] at H'; exact H'
          · rw [if_neg (fun w => by rcases w.2 with q | q; omega; exact absurd (x.symm.trans q) (by decide)), qt_ms] at H'; exact H'
      refine nm_r (rd_cnT z') ⟨vp_in_nI hd (by decide), ?_⟩
      rw [ep1]
      refine cd_if (nI_leI (by omega) (by omega)) (fun y => s73 _ ?_) (fun y => ⟨vp_in_nI hd (by decide), nm_e (s73 _ ?_)⟩)
      · rw [lj_gpS, if_neg (fun w => by omega)]
      · rw [lj_gpS, if_pos ⟨z', by omega⟩]
end
theorem i_vc_takeover {k : Nat} {u : SX} {v : SY} (I : i_Rel k u v) (hk : k + 4 ≤ 2048) (v1 : Int32) : wpX_takeover (fun r u' => wpY_takeover (fun r' v' => r' = r ∧ i_Rel (k + 4) u' v') v v1) u v1 := by
  have I' := i_up I
  obtain ⟨T, ⟨mu, ju, ac, ep, to, pr, ba, le, lg⟩, ⟨nu, st, un, ua⟩, h1, h2, h3, h4, h5, h6, h7, h8⟩ := I
  have he : ep ≤ 512 := rl_ep h7 (by omega)
  have i5 := h7.2.2.2.2.1
  have i3 := h7.2.2.1
  have hpr : ∀ j, j < 3 → pr j ≤ 512 := fun j hj => by have := i3 j hj; omega
  have hw : ∀ j, j < 3 → qt_wf (lg j) (le j) ∧ le j ≤ 1000 := fun j hj => ⟨(i5 j hj).1, (i5 j hj).2.2.2⟩
  have hlen := rl_len h7
  obtain ⟨m, hm⟩ := ix_e v1 (N := 2) (by decide)
  generalize hR : i_Rel (k + 4) = R at I'
  obtain ⟨f_active, f_epoch, a_dataNodeDown, a_journalDown, a_masterDown, a_inTouch, a_promise, a_base, a_logLength, a_logEpoch, a_logKind, a_logA, a_logB, a_logC, a_inodeState, a_inodePlace, a_inodeClient, a_closeUnits, a_rowLength, a_rowBlock, a_blockStamp, a_replicaHeld, a_replicaStamp, a_unitCount, a_unitValue⟩ := u
  have bad : ¬ (m < 2 ∧ mu m = true ∧ 2 ≤ rd_cn ju 3) → wpY_takeover (fun r' v' => r' = -2 ∧ R (f_active, f_epoch, a_dataNodeDown, a_journalDown, a_masterDown, a_inTouch, a_promise, a_base, a_logLength, a_logEpoch, a_logKind, a_logA, a_logB, a_logC, a_inodeState, a_inodePlace, a_inodeClient, a_closeUnits, a_rowLength, a_rowBlock, a_blockStamp, a_replicaHeld, a_replicaStamp, a_unitCount, a_unitValue) v') v v1 := fun z => ym_takeover h4 h5 hpr hw hm (fun _ => ⟨rfl, I'⟩) (fun a b c => absurd ⟨a, b, c⟩ z)
  refine ix_t hm rfl (by decide) (fun hlt e => ?_) (fun e => bad (fun z => by omega))
  subst e
  have hcn := rd_cnL ju 3
  refine ⟨vp_in_nI hlt (by decide), cd_if (cd_n (h2.2.2.2.1 m hlt) (by omega)) (fun z => ?_) (fun z => bad (fun y => z y.2.1))⟩
  refine xm_countUp (u := (f_active, f_epoch, a_dataNodeDown, a_journalDown, a_masterDown, a_inTouch, a_promise, a_base, a_logLength, a_logEpoch, a_logKind, a_logA, a_logB, a_logC, a_inodeState, a_inodePlace, a_inodeClient, a_closeUnits, a_rowLength, a_rowBlock, a_blockStamp, a_replicaHeld, a_replicaStamp, a_unitCount, a_unitValue)) h2 (cd_if (nI_leI (a := 2) (by decide) (by omega)) (fun y => ?_) (fun y => bad (fun x => y x.2.2)))
  refine xm_greatest (u := (f_active, f_epoch, a_dataNodeDown, a_journalDown, a_masterDown, a_inTouch, a_promise, a_base, a_logLength, a_logEpoch, a_logKind, a_logA, a_logB, a_logC, a_inodeState, a_inodePlace, a_inodeClient, a_closeUnits, a_rowLength, a_rowBlock, a_blockStamp, a_replicaHeld, a_replicaStamp, a_unitCount, a_unitValue)) h2 hpr (nm_r (nI_1 _) ?_)
  obtain ⟨l1, l2, l3, l4, l5, l6, l7, l8, l9⟩ := h2
  have hLE : sx_L (mu, ju, ac, lj_gp ju pr 3 + 1, to, pr, ba, le, lg) (f_active, (nI (lj_gp ju pr 3 + 1)), a_dataNodeDown, a_journalDown, a_masterDown, a_inTouch, a_promise, a_base, a_logLength, a_logEpoch, a_logKind, a_logA, a_logB, a_logC, a_inodeState, a_inodePlace, a_inodeClient, a_closeUnits, a_rowLength, a_rowBlock, a_blockStamp, a_replicaHeld, a_replicaStamp, a_unitCount, a_unitValue) := ⟨l1, rfl, l3, l4, l5, l6, l7, l8, l9⟩
  refine xm_best (u := (f_active, (nI (lj_gp ju pr 3 + 1)), a_dataNodeDown, a_journalDown, a_masterDown, a_inTouch, a_promise, a_base, a_logLength, a_logEpoch, a_logKind, a_logA, a_logB, a_logC, a_inodeState, a_inodePlace, a_inodeClient, a_closeUnits, a_rowLength, a_rowBlock, a_blockStamp, a_replicaHeld, a_replicaStamp, a_unitCount, a_unitValue)) hLE hw ?_
  obtain ⟨s1, s2, s3⟩ := lj_sP (le := le) (lg := lg) (lj_cn2 y)
  rw [s3, qt_ms]
  obtain ⟨t1, t2⟩ := lj_tkI (m := m) h7 hlt y
  refine xm_takeLoop (u := (f_active, f_epoch, a_dataNodeDown, a_journalDown, a_masterDown, a_inTouch, a_promise, a_base, a_logLength, a_logEpoch, a_logKind, a_logA, a_logB, a_logC, a_inodeState, a_inodePlace, a_inodeClient, a_closeUnits, a_rowLength, a_rowBlock, a_blockStamp, a_replicaHeld, a_replicaStamp, a_unitCount, a_unitValue)) h1 ⟨l1, l2, l3, l4, l5, l6, l7, l8, l9⟩ h3 s1 hlt hw s2 ?_ _ _ _ _ _ _ _ _ _ _ _ _ _ _ _ _ _ _ _ _ _ _ _ _ _ rfl
  intro u' g1 g2 g3
  refine ym_takeover h4 h5 hpr hw hm (fun x => absurd ⟨hlt, z, y⟩ x) (fun _ _ _ v' m1 m2 => ⟨rfl, ?_⟩)
  rw [← hR]
  refine ⟨_, lj_tk (mu, ju, ac, ep, to, pr, ba, le, lg) m, _, g1, g2, g3, m1, m2, qt_ivAb (hw _ s1).1 (hw _ s1).2, t1, ⟨fun c hc => ?_, h8.2⟩⟩
  have h8c := h8.1 c hc
  have hac : 0 < lj_ac (lj_tk (mu, ju, ac, ep, to, pr, ba, le, lg) m) := Nat.succ_pos m
  rw [if_pos hac, t2]
  have e1 : lj_ep (mu, ju, ac, ep, to, pr, ba, le, lg) = ep := rfl
  split at h8c <;> omega
end
section
/-! a new block gets its replicas -/
theorem rd_chS (nu : Nat → Bool) (st : Nat → Nat) (n x : Nat) : rd_ch nu st (n + 1) x = (rd_ch nu st n x || (rd_il nu st (fun y => !rd_ch nu st n y) 5 == x + 1)) := rfl
theorem rd_chN {nu : Nat → Bool} {st : Nat → Nat} {n : Nat} (h : rd_il nu st (fun y => !rd_ch nu st n y) 5 = 0) (x : Nat) : rd_ch nu st (n + 1) x = rd_ch nu st n x := by
  rw [rd_chS, h]; simp
theorem rd_chD {nu : Nat → Bool} {st : Nat → Nat} {n d : Nat} (h : rd_il nu st (fun y => !rd_ch nu st n y) 5 = d + 1) (x : Nat) : rd_ch nu st (n + 1) x = (rd_ch nu st n x || x == d) := by
  rw [rd_chS, h]
  congr 1
  by_cases z : x = d
  · subst z; simp
  · rw [beq_false_of_ne (show d + 1 ≠ x + 1 by omega), beq_false_of_ne z]
/-- nodes that are asked keep their loads -/
theorem rd_ilch {nu f : Nat → Bool} {st : Nat → Nat} {b x : Nat} (hb : b < 16) : rd_il nu (rd_set x f b st) (fun y => !f y) 5 = rd_il nu st (fun y => !f y) 5 := by
  refine rd_ilC (fun _ _ => rfl) (fun d hd hf => rd_ldC (fun b' hb' => ?_))
  have hfd : f d = false := by simpa using hf
  by_cases z : b' = b
  · subst z; rw [rd_setA hb, if_neg (by rw [hfd]; decide)]
  · exact rd_setN hb' z
theorem rd_ch1 {nu : Nat → Bool} {st : Nat → Nat} (h : rd_il nu st (fun _ => true) 5 ≠ 0) : ∃ d, d < 5 ∧ rd_ch nu st 3 d = true := by
  rcases rd_ilP (nu := nu) (st := st) (ok := fun _ => true) (n := 5) with z | ⟨z, _, _⟩
  · exact absurd z h
  · refine ⟨rd_il nu st (fun _ => true) 5 - 1, by omega, ?_⟩
    have e : rd_ch nu st 1 (rd_il nu st (fun _ => true) 5 - 1) = true := by
      show (false || (rd_il nu st (fun _ => true) 5 == rd_il nu st (fun _ => true) 5 - 1 + 1)) = true
      rw [Bool.false_or]
      simp; omega
    rw [rd_chS, rd_chS, e]; rfl
section
variable {T : qt_T} {mu ju : Nat → Bool} {ac ep : Nat} {to : Nat → Bool} {pr ba le : Nat → Nat} {lg : Nat → Nat → qt_R} {nu : Nat → Bool} {st un : Nat → Nat} {ua : Nat → Int32}
theorem xm_addBlock {k : Nat} {u : SX} (h : sx_T T u) (hI : qt_iv T) (hL : sx_L (mu, ju, ac, ep, to, pr, ba, le, lg) u) (hD : sx_D (nu, st, un, ua) u) (hac : 0 < ac) (hiv : lj_iv k (mu, ju, ac, ep, to, pr, ba, le, lg) T) (hrm : lj_rm (mu, ju, ac, ep, to, pr, ba, le, lg) 1) {post : Int32 → SX → Prop} {n b : Nat} (hb16 : b < 16) (hb : ls_f (fun b => ¬ qt_in (qt_rl T) (qt_ro T) b) 16 b) (ho : qt_ok T (ep, 1, n, b, 1))
    (h1 : lj_kept (mu, ju, ac, ep, to, pr, ba, le, lg) = true → ∀ u', sx_T (qt_ap T (ep, 1, n, b, 1) (le (lj_src to))) u' → sx_L (lj_wr (mu, ju, ac, ep, to, pr, ba, le, lg) 1 n b 1) u' → sx_D (rd_rn (nu, st, un, ua) (rd_ch nu st 3) b (2048 * ep + le (lj_src to)) 0) u' → post 1 u')
    (h0 : lj_kept (mu, ju, ac, ep, to, pr, ba, le, lg) = false → ∀ u', sx_T T u' → sx_L (lj_wr (mu, ju, ac, ep, to, pr, ba, le, lg) 1 n b 1) u' → sx_D (rd_rn (nu, st, un, ua) (rd_ch nu st 3) b (2048 * ep + le (lj_src to)) 0) u' → post 0 u') : wpX_addBlock post u (nI n) := by
  obtain ⟨f_active, f_epoch, a_dataNodeDown, a_journalDown, a_masterDown, a_inTouch, a_promise, a_base, a_logLength, a_logEpoch, a_logKind, a_logA, a_logB, a_logC, a_inodeState, a_inodePlace, a_inodeClient, a_closeUnits, a_rowLength, a_rowBlock, a_blockStamp, a_replicaHeld, a_replicaStamp, a_unitCount, a_unitValue⟩ := u
  unfold wpX_addBlock
  have h2 := (hiv.2.2.2.2.2 hac).1
  refine xm_leastFreeBlock (u := (f_active, f_epoch, a_dataNodeDown, a_journalDown, a_masterDown, a_inTouch, a_promise, a_base, a_logLength, a_logEpoch, a_logKind, a_logA, a_logB, a_logC, a_inodeState, a_inodePlace, a_inodeClient, a_closeUnits, a_rowLength, a_rowBlock, a_blockStamp, a_replicaHeld, a_replicaStamp, a_unitCount, a_unitValue)) h hI hb ?_
  rw [ls_vS hb16]
  refine xm_nextStamp (u := (f_active, f_epoch, a_dataNodeDown, a_journalDown, a_masterDown, a_inTouch, a_promise, a_base, a_logLength, a_logEpoch, a_logKind, a_logA, a_logB, a_logC, a_inodeState, a_inodePlace, a_inodeClient, a_closeUnits, a_rowLength, a_rowBlock, a_blockStamp, a_replicaHeld, a_replicaStamp, a_unitCount, a_unitValue)) hL h2 ?_
  generalize hs : 2048 * ep + le (lj_src to) = s at h1 h0
  have key : ∀ m i r, r + m = 3 → m < i → ∀ f_active f_epoch a_dataNodeDown a_journalDown a_masterDown a_inTouch a_promise a_base a_logLength a_logEpoch a_logKind a_logA a_logB a_logC a_inodeState a_inodePlace a_inodeClient a_closeUnits a_rowLength a_rowBlock a_blockStamp a_replicaHeld a_replicaStamp a_unitCount a_unitValue, sx_T T (f_active, f_epoch, a_dataNodeDown, a_journalDown, a_masterDown, a_inTouch, a_promise, a_base, a_logLength, a_logEpoch, a_logKind, a_logA, a_logB, a_logC, a_inodeState, a_inodePlace, a_inodeClient, a_closeUnits, a_rowLength, a_rowBlock, a_blockStamp, a_replicaHeld, a_replicaStamp, a_unitCount, a_unitValue) → sx_L (mu, ju, ac, ep, to, pr, ba, le, lg) (f_active, f_epoch, a_dataNodeDown, a_journalDown, a_masterDown, a_inTouch, a_promise, a_base, a_logLength, a_logEpoch, a_logKind, a_logA, a_logB, a_logC, a_inodeState, a_inodePlace, a_inodeClient, a_closeUnits, a_rowLength, a_rowBlock, a_blockStamp, a_replicaHeld, a_replicaStamp, a_unitCount, a_unitValue) → sx_D (nu, rd_set (s + 1) (rd_ch nu st r) b st, rd_set 0 (rd_ch nu st r) b un, ua) (f_active, f_epoch, a_dataNodeDown, a_journalDown, a_masterDown, a_inTouch, a_promise, a_base, a_logLength, a_logEpoch, a_logKind, a_logA, a_logB, a_logC, a_inodeState, a_inodePlace, a_inodeClient, a_closeUnits, a_rowLength, a_rowBlock, a_blockStamp, a_replicaHeld, a_replicaStamp, a_unitCount, a_unitValue) → wX_addBlock_16 post (nI n) (nI b) (nI s) i (nI (rd_mk (rd_ch nu st r) 5)) (nI r) f_active f_epoch a_dataNodeDown a_journalDown a_masterDown a_inTouch a_promise a_base a_logLength a_logEpoch a_logKind a_logA a_logB a_logC a_inodeState a_inodePlace a_inodeClient a_closeUnits a_rowLength a_rowBlock a_blockStamp a_replicaHeld a_replicaStamp a_unitCount a_unitValue := by
    intro m
    induction m with
    | zero =>
      intro i r hr hi f_active f_epoch a_dataNodeDown a_journalDown a_masterDown a_inTouch a_promise a_base a_logLength a_logEpoch a_logKind a_logA a_logB a_logC a_inodeState a_inodePlace a_inodeClient a_closeUnits a_rowLength a_rowBlock a_blockStamp a_replicaHeld a_replicaStamp a_unitCount a_unitValue h hL hD
      obtain ⟨i, rfl⟩ : ∃ i', i = i' + 1 := ⟨i - 1, by omega⟩
      have e : r = 3 := by omega
      subst e
      refine br_t lb_t (xm_writeRecord1 (u := (f_active, f_epoch, a_dataNodeDown, a_journalDown, a_masterDown, a_inTouch, a_promise, a_base, a_logLength, a_logEpoch, a_logKind, a_logA, a_logB, a_logC, a_inodeState, a_inodePlace, a_inodeClient, a_closeUnits, a_rowLength, a_rowBlock, a_blockStamp, a_replicaHeld, a_replicaStamp, a_unitCount, a_unitValue)) (q := 1) h hI hL hD hac hiv hrm ho (fun hk => ?_) (fun hk => ?_))
      · rintro ⟨f_active, f_epoch, a_dataNodeDown, a_journalDown, a_masterDown, a_inTouch, a_promise, a_base, a_logLength, a_logEpoch, a_logKind, a_logA, a_logB, a_logC, a_inodeState, a_inodePlace, a_inodeClient, a_closeUnits, a_rowLength, a_rowBlock, a_blockStamp, a_replicaHeld, a_replicaStamp, a_unitCount, a_unitValue⟩ g1 g2 g3
        exact ⟨rfl, h1 hk _ g1 g2 g3⟩
      · rintro ⟨f_active, f_epoch, a_dataNodeDown, a_journalDown, a_masterDown, a_inTouch, a_promise, a_base, a_logLength, a_logEpoch, a_logKind, a_logA, a_logB, a_logC, a_inodeState, a_inodePlace, a_inodeClient, a_closeUnits, a_rowLength, a_rowBlock, a_blockStamp, a_replicaHeld, a_replicaStamp, a_unitCount, a_unitValue⟩ g1 g2 g3
        exact ⟨rfl, h0 hk _ g1 g2 g3⟩
    | succ m ih =>
      intro i r hr hi f_active f_epoch a_dataNodeDown a_journalDown a_masterDown a_inTouch a_promise a_base a_logLength a_logEpoch a_logKind a_logA a_logB a_logC a_inodeState a_inodePlace a_inodeClient a_closeUnits a_rowLength a_rowBlock a_blockStamp a_replicaHeld a_replicaStamp a_unitCount a_unitValue h hL hD
      obtain ⟨i, rfl⟩ : ∃ i', i = i' + 1 := ⟨i - 1, by omega⟩
      have hil : rd_il nu st (fun y => !rd_ch nu st r y) 5 ≤ 5 := by
        rcases rd_ilP (nu := nu) (st := st) (ok := fun y => !rd_ch nu st r y) (n := 5) with y | y <;> omega
      refine br_f (lb_f (N := 3) (by omega)) (xm_leastLoadedNode (u := (f_active, f_epoch, a_dataNodeDown, a_journalDown, a_masterDown, a_inTouch, a_promise, a_base, a_logLength, a_logEpoch, a_logKind, a_logA, a_logB, a_logC, a_inodeState, a_inodePlace, a_inodeClient, a_closeUnits, a_rowLength, a_rowBlock, a_blockStamp, a_replicaHeld, a_replicaStamp, a_unitCount, a_unitValue)) hD ?_)
      rw [rd_ilch hb16]
      by_cases hz : rd_il nu st (fun y => !rd_ch nu st r y) 5 = 0
      · rw [hz, qt_m0]
        refine br_t rfl (nm_r (nI_1 r) ?_)
        have := ih i (r + 1) (by omega) (by omega) _ _ _ _ _ _ _ _ _ _ _ _ _ _ _ _ _ _ _ _ _ _ _ _ _ h hL (sx_Dc hD (fun c hc => rd_setC hc (fun d _ => (rd_chN hz d).symm)) (fun c hc => rd_setC hc (fun d _ => (rd_chN hz d).symm)))
        rw [rd_mkC (g := rd_ch nu st r) (fun d _ => rd_chN hz d)] at this
        exact this
      · obtain ⟨d, hd⟩ : ∃ d, rd_il nu st (fun y => !rd_ch nu st r y) 5 = d + 1 := ⟨rd_il nu st (fun y => !rd_ch nu st r y) 5 - 1, by omega⟩
        have hd5 : d < 5 := by omega
        rw [hd, qt_ms]
        refine br_f (ix_m1 (by omega)) (xm_putEmpty (u := (f_active, f_epoch, a_dataNodeDown, a_journalDown, a_masterDown, a_inTouch, a_promise, a_base, a_logLength, a_logEpoch, a_logKind, a_logA, a_logB, a_logC, a_inodeState, a_inodePlace, a_inodeClient, a_closeUnits, a_rowLength, a_rowBlock, a_blockStamp, a_replicaHeld, a_replicaStamp, a_unitCount, a_unitValue)) h hL hD hd5 hb16 ?_)
        rintro ⟨f_active, f_epoch, a_dataNodeDown, a_journalDown, a_masterDown, a_inTouch, a_promise, a_base, a_logLength, a_logEpoch, a_logKind, a_logA, a_logB, a_logC, a_inodeState, a_inodePlace, a_inodeClient, a_closeUnits, a_rowLength, a_rowBlock, a_blockStamp, a_replicaHeld, a_replicaStamp, a_unitCount, a_unitValue⟩ g1 g2 g3
        refine nm_r (rd_or _ hd5) (nm_r (nI_1 r) ?_)
        have e1 : ∀ (x : Nat) (g : Nat → Nat) c, c < 80 → qt_u (rd_set x (rd_ch nu st r) b g) (16 * d + b) x c = rd_set x (rd_ch nu st (r + 1)) b g c := by
          intro x g c hc
          rw [rd_setC (f' := fun y => rd_ch nu st r y || y == d) hc (fun e _ => rd_chD hd e), rd_setS hb16]
          by_cases z : c = 16 * d + b
          · subst z; rw [qt_us, if_pos rfl]
          · rw [qt_un z, if_neg z]
        have := ih i (r + 1) (by omega) (by omega) _ _ _ _ _ _ _ _ _ _ _ _ _ _ _ _ _ _ _ _ _ _ _ _ _ g1 g2 (sx_Dc g3 (e1 (s + 1) st) (e1 0 un))
        rw [rd_mkC (g := fun x => rd_ch nu st r x || x == d) (fun e _ => rd_chD hd e)] at this
        exact this
  have e0 : rd_mk (rd_ch nu st 0) 5 = 0 := rd_mk0
  have := key 3 4 0 (by omega) (by omega) _ _ _ _ _ _ _ _ _ _ _ _ _ _ _ _ _ _ _ _ _ _ _ _ _ h hL (sx_Dc hD (fun c hc => (rd_set0 (c := c)).symm) (fun c hc => (rd_set0 (c := c)).symm))
  rw [e0] at this
  exact ⟨4, this⟩
theorem ym_place {v : SY} (h : sy_T T v) (hL : sy_L (mu, ju, ac, ep, to, pr, ba, le, lg) v) (hD : sy_D (nu, st, un, ua) v) (hb : rd_bd (nu, st, un, ua)) {post : SY → Prop} {b : Nat} (hb16 : b < 16) (hp : ∀ v', sy_T T v' → sy_L (mu, ju, ac, ep, to, pr, ba, le, lg) v' → sy_D (rd_rn (nu, st, un, ua) (rd_ch nu st 3) b (2048 * ep + le (lj_src to)) 0) v' → post v') : wpY_place post v (nI b) := by
  obtain ⟨f_active, f_epoch, a_nodeUp, a_journalUp, a_masterUp, a_touch, a_log, a_many, a_promise, a_base, a_stamp, a_units, a_unit, a_sort, a_placeOf, a_client, a_rowLength, a_row, a_closedWith, a_stampOf⟩ := v
  unfold wpY_place
  refine ym_nextStamp (v := (f_active, f_epoch, a_nodeUp, a_journalUp, a_masterUp, a_touch, a_log, a_many, a_promise, a_base, a_stamp, a_units, a_unit, a_sort, a_placeOf, a_client, a_rowLength, a_row, a_closedWith, a_stampOf)) hL ?_
  generalize hs : 2048 * ep + le (lj_src to) = s at hp
  have h' : qt_ag False T a_sort a_placeOf a_client a_closedWith a_rowLength a_row a_stampOf := h
  have fin : ∃ n, wY_place_47 post (nI b) (nI (rd_mk (fun x => !rd_ch nu st 3 x) 5)) (nI s) f_active f_epoch n 0 a_nodeUp a_journalUp a_masterUp a_touch a_log a_many a_promise a_base a_stamp a_units a_unit a_sort a_placeOf a_client a_rowLength a_row a_closedWith a_stampOf := by
    obtain ⟨l1, l2, l3, l4, l5, l6, l7, l8, l9⟩ := hL
    obtain ⟨d1, d2, d3, d4⟩ := hD
    have hcu : ∀ d, rd_ch nu st 3 d = true → nu d = true := fun d => rd_chU
    generalize rd_ch nu st 3 = f at hp hcu
    have key : ∀ k n d, d + k = 5 → k < n → ∀ aS aU : Nat → Int32, (∀ c, c < 80 → aS c = qt_m (rd_set (s + 1) (rd_b f d) b st c)) → (∀ c, c < 80 → aU c = nI (rd_set 0 (rd_b f d) b un c)) → wY_place_47 post (nI b) (nI (rd_mk (fun x => !f x) 5)) (nI s) f_active f_epoch n (nI d) a_nodeUp a_journalUp a_masterUp a_touch a_log a_many a_promise a_base aS aU a_unit a_sort a_placeOf a_client a_rowLength a_row a_closedWith a_stampOf := by
      intro k
      induction k with
      | zero =>
        intro n d hd hn aS aU HS HU
        obtain ⟨n, rfl⟩ : ∃ n', n = n' + 1 := ⟨n - 1, by omega⟩
        have e : d = 5 := by omega
        subst e
        have hDn : sy_D (rd_rn (nu, st, un, ua) f b s 0) (f_active, f_epoch, a_nodeUp, a_journalUp, a_masterUp, a_touch, a_log, a_many, a_promise, a_base, aS, aU, a_unit, a_sort, a_placeOf, a_client, a_rowLength, a_row, a_closedWith, a_stampOf) := sy_Dc (st := rd_set (s + 1) (rd_b f 5) b st) (un := rd_set 0 (rd_b f 5) b un) ⟨d1, HS, HU, d4⟩ (fun c hc => rd_setC hc (fun e he => rd_b5 he)) (fun c hc => rd_setC hc (fun e he => rd_b5 he))
        exact br_t lb_t (hp _ h' ⟨l1, l2, l3, l4, l5, l6, l7, l8, l9⟩ hDn)
      | succ k ih =>
        intro n d hd hn aS aU HS HU
        obtain ⟨n, rfl⟩ : ∃ n', n = n' + 1 := ⟨n - 1, by omega⟩
        have hd5 : d < 5 := by omega
        have hc : 16 * d + b < 80 := by omega
        have hv := vp_in_nI hc (by decide : 80 < 2 ^ 31)
        have hcc : (nI (16 * d + b)).toNatClampNeg = 16 * d + b := nI_clamp (by omega)
        have skip : f d = false → wY_place_47 post (nI b) (nI (rd_mk (fun x => !f x) 5)) (nI s) f_active f_epoch n (nI (d + 1)) a_nodeUp a_journalUp a_masterUp a_touch a_log a_many a_promise a_base aS aU a_unit a_sort a_placeOf a_client a_rowLength a_row a_closedWith a_stampOf := by
          intro z
          refine ih n (d + 1) (by omega) (by omega) aS aU (fun c hc => ?_) (fun c hc => ?_)
          · rw [rd_setF hc z]; exact HS c hc
          · rw [rd_setF hc z]; exact HU c hc
        refine br_f (lb_f hd5) (cd_if (rd_b1 (fun x => !f x) hd5) (fun z => nm_r (nI_1 d) (skip (by simpa using z))) (fun z => ⟨vp_in_nI hd5 (by decide), ?_⟩))
        have z' : f d = true := by simpa using z
        refine br_f ((not_congr (cd_p (d1 d hd5) (by omega))).mpr (by rw [hcu d z']; decide)) ?_
        rw [show 16 * nI d + nI b = nI (16 * d + b) from mu_l d 16 b]
        refine ⟨hv, nm_e ⟨hv, nm_e (nm_r (nI_1 d) ?_)⟩⟩
        rw [hcc]
        refine ih n (d + 1) (by omega) (by omega) _ _ (fun c hc => ?_) (fun c hc => ?_)
        · rw [rd_setT hb16 hc z']
          by_cases y : c = 16 * d + b
          · subst y; rw [pk_us, if_pos rfl, qt_ms]
          · rw [pk_un y, if_neg y]; exact HS c hc
        · rw [rd_setT hb16 hc z']
          by_cases y : c = 16 * d + b
          · subst y; rw [pk_us, if_pos rfl]; rfl
          · rw [pk_un y, if_neg y]; exact HU c hc
    refine ⟨6, key 5 6 0 (by omega) (by omega) _ _ (fun c hc => ?_) (fun c hc => ?_)⟩
    · rw [rd_setC (f' := fun _ => false) hc (fun e _ => rd_b0'), rd_set0]; exact d2 c hc
    · rw [rd_setC (f' := fun _ => false) hc (fun e _ => rd_b0'), rd_set0]; exact d3 c hc
  have key : ∀ m i r, r + m = 3 → m < i → wY_place_11 post (nI b) (nI s) f_active f_epoch a_nodeUp a_journalUp a_masterUp a_touch a_log a_many a_promise a_base a_stamp a_units a_unit a_sort a_placeOf a_client a_rowLength a_row a_closedWith a_stampOf i (nI (rd_mk (fun x => !rd_ch nu st r x) 5)) (nI r) := by
    intro m
    induction m with
    | zero =>
      intro i r hr hi
      obtain ⟨i, rfl⟩ : ∃ i', i = i' + 1 := ⟨i - 1, by omega⟩
      have e : r = 3 := by omega
      subst e
      exact br_t lb_t fin
    | succ m ih =>
      intro i r hr hi
      obtain ⟨i, rfl⟩ : ∃ i', i = i' + 1 := ⟨i - 1, by omega⟩
      have hil : rd_il nu st (fun y => !rd_ch nu st r y) 5 ≤ 5 := by
        rcases rd_ilP (nu := nu) (st := st) (ok := fun y => !rd_ch nu st r y) (n := 5) with y | y <;> omega
      have IH := ih i (r + 1) (by omega) (by omega)
      refine br_f (lb_f (N := 3) (by omega)) (ym_idlest (v := (f_active, f_epoch, a_nodeUp, a_journalUp, a_masterUp, a_touch, a_log, a_many, a_promise, a_base, a_stamp, a_units, a_unit, a_sort, a_placeOf, a_client, a_rowLength, a_row, a_closedWith, a_stampOf)) hD hb ?_)
      by_cases hz : rd_il nu st (fun y => !rd_ch nu st r y) 5 = 0
      · rw [hz, qt_m0]
        refine br_t (by decide) (nm_r (nI_1 r) ?_)
        rw [rd_mkC (g := fun x => !rd_ch nu st r x) (fun d _ => by rw [rd_chN hz d])] at IH
        exact IH
      · obtain ⟨d, hd⟩ : ∃ d, rd_il nu st (fun y => !rd_ch nu st r y) 5 = d + 1 := ⟨rd_il nu st (fun y => !rd_ch nu st r y) 5 - 1, by omega⟩
        have hd5 : d < 5 := by omega
        rw [hd, qt_ms]
        refine br_f (nI_pos (by omega)) (nm_r (rd_an _ hd5) (nm_r (nI_1 r) ?_))
        rw [rd_mkC (g := fun x => (!rd_ch nu st r x) && !(x == d)) (fun e _ => by rw [rd_chD hd e, Bool.not_or])] at IH
        exact IH
  have e0 : rd_mk (fun x => !rd_ch nu st 0 x) 5 = 31 := rd_mk1
  have := key 3 4 0 (by omega) (by omega)
  rw [e0] at this
  exact ⟨4, this⟩
end
end
section
/-! append -/
theorem xm_addBlockG {k : Nat} {T : qt_T} {L : lj_L} {nu : Nat → Bool} {st un : Nat → Nat} {ua : Nat → Int32} {u : SX} (h : sx_T T u) (hI : qt_iv T) (hL : sx_L L u) (hD : sx_D (nu, st, un, ua) u) (hac : 0 < lj_ac L) (hiv : lj_iv k L T) (hrm : lj_rm L 1) {post : Int32 → SX → Prop} {n b : Nat} (hb16 : b < 16) (hb : ls_f (fun b => ¬ qt_in (qt_rl T) (qt_ro T) b) 16 b) (ho : qt_ok T (lj_ep L, 1, n, b, 1))
    (h1 : lj_kept L = true → ∀ u', sx_T (qt_ap T (lj_ep L, 1, n, b, 1) (lj_len L)) u' → sx_L (lj_wr L 1 n b 1) u' → sx_D (rd_rn (nu, st, un, ua) (rd_ch nu st 3) b (2048 * lj_ep L + lj_len L) 0) u' → post 1 u')
    (h0 : lj_kept L = false → ∀ u', sx_T T u' → sx_L (lj_wr L 1 n b 1) u' → sx_D (rd_rn (nu, st, un, ua) (rd_ch nu st 3) b (2048 * lj_ep L + lj_len L) 0) u' → post 0 u') : wpX_addBlock post u (nI n) := by
  obtain ⟨mu, ju, ac, ep, to, pr, ba, le, lg⟩ := L
  exact xm_addBlock h hI hL hD hac hiv hrm hb16 hb ho h1 h0
theorem ym_placeG {T : qt_T} {L : lj_L} {nu : Nat → Bool} {st un : Nat → Nat} {ua : Nat → Int32} {v : SY} (h : sy_T T v) (hL : sy_L L v) (hD : sy_D (nu, st, un, ua) v) (hb : rd_bd (nu, st, un, ua)) {post : SY → Prop} {b : Nat} (hb16 : b < 16) (hp : ∀ v', sy_T T v' → sy_L L v' → sy_D (rd_rn (nu, st, un, ua) (rd_ch nu st 3) b (2048 * lj_ep L + lj_len L) 0) v' → post v') : wpY_place post v (nI b) := by
  obtain ⟨mu, ju, ac, ep, to, pr, ba, le, lg⟩ := L
  exact ym_place h hL hD hb hb16 hp
theorem xm_putUnitG {T : qt_T} {L : lj_L} {nu : Nat → Bool} {st un : Nat → Nat} {ua : Nat → Int32} {u : SX} (h : sx_T T u) (hL : sx_L L u) (hD : sx_D (nu, st, un, ua) u) {post : SX → Prop} {c : Nat} {x : Int32} (hc : c < 80) (hu : un c < 8) (hp : ∀ u', sx_T T u' → sx_L L u' → sx_D (nu, st, qt_u un c (un c + 1), upd ua (8 * c + un c) x) u' → post u') : wpX_putUnit post u (nI c) x := by
  obtain ⟨mu, ju, ac, ep, to, pr, ba, le, lg⟩ := L
  exact xm_putUnit h hL hD hc hu hp
theorem qt_ap1 {T : qt_T} {e a b c k : Nat} : qt_so (qt_ap T (e, 1, a, b, c) k) = qt_so T ∧ qt_rl (qt_ap T (e, 1, a, b, c) k) = qt_u (qt_rl T) a (qt_rl T a + 1) ∧ qt_ro (qt_ap T (e, 1, a, b, c) k) = qt_u (qt_ro T) (3 * a + qt_rl T a) b ∧ qt_sp (qt_ap T (e, 1, a, b, c) k) = qt_u (qt_sp T) b (2048 * e + k) := by
  obtain ⟨so, pl, cl, cw, rl, ro, sp⟩ := T
  exact ⟨rfl, rfl, rfl, rfl⟩
section
variable {k : Nat} {T : qt_T} {L : lj_L} {nu : Nat → Bool} {st un : Nat → Nat} {ua : Nat → Int32} {n : Nat} {x : Int32}
theorem ap_unit {b m : Nat} (hI : qt_iv T) (hiv : lj_iv k L T) (hD : rd_iv L (nu, st, un, ua)) (hb : rd_bd (nu, st, un, ua)) (hn : n < 12) (hr : 0 < qt_rl T n) (hbb : qt_ro T (3 * n + (qt_rl T n - 1)) = b) (hm : ls_f (fun d => rd_g nu st b (qt_sp T b) d = true) 5 m) (hm5 : m < 5) (hu : un (16 * m + b) < 8) :
    oc k T L (nu, st, un, ua) (fun post u => match u with | (f_active, f_epoch, a_dataNodeDown, a_journalDown, a_masterDown, a_inTouch, a_promise, a_base, a_logLength, a_logEpoch, a_logKind, a_logA, a_logB, a_logC, a_inodeState, a_inodePlace, a_inodeClient, a_closeUnits, a_rowLength, a_rowBlock, a_blockStamp, a_replicaHeld, a_replicaStamp, a_unitCount, a_unitValue) => wX_append_210 post (nI n) x f_active f_epoch a_dataNodeDown a_journalDown a_masterDown a_inTouch a_promise a_base a_logLength a_logEpoch a_logKind a_logA a_logB a_logC a_inodeState a_inodePlace a_inodeClient a_closeUnits a_rowLength a_rowBlock a_blockStamp a_replicaHeld a_replicaStamp a_unitCount a_unitValue) (fun post v => match v with | (f_active, f_epoch, a_nodeUp, a_journalUp, a_masterUp, a_touch, a_log, a_many, a_promise, a_base, a_stamp, a_units, a_unit, a_sort, a_placeOf, a_client, a_rowLength, a_row, a_closedWith, a_stampOf) => wY_append_304 post x (nI b) f_active f_epoch a_nodeUp a_journalUp a_masterUp a_touch a_log a_many a_promise a_base a_stamp a_units a_unit a_sort a_placeOf a_client a_rowLength a_row a_closedWith a_stampOf) := by
  have hb16 : b < 16 := by rw [← hbb]; exact qt_iv5 hI n (qt_rl T n - 1) hn (by omega)
  have hin : qt_in (qt_rl T) (qt_ro T) b := ⟨n, qt_rl T n - 1, hn, by omega, hbb⟩
  have hc : 16 * m + b < 80 := by omega
  have hv := vp_in_nI hc (by decide : 80 < 2 ^ 31)
  have hcc : (nI (16 * m + b)).toNatClampNeg = 16 * m + b := nI_clamp (by omega)
  refine ⟨nI (un (16 * m + b) + 1), T, L, (nu, st, qt_u un (16 * m + b) (un (16 * m + b) + 1), upd ua (8 * (16 * m + b) + un (16 * m + b)) x), hI, hiv, ⟨hD.1, fun c hc => ?_⟩, ?_, ?_⟩
  · by_cases z : c = 16 * m + b
    · subst z; rw [qt_us]; omega
    · rw [qt_un z]; exact hD.2 c hc
  · rintro post ⟨f_active, f_epoch, a_dataNodeDown, a_journalDown, a_masterDown, a_inTouch, a_promise, a_base, a_logLength, a_logEpoch, a_logKind, a_logA, a_logB, a_logC, a_inodeState, a_inodePlace, a_inodeClient, a_closeUnits, a_rowLength, a_rowBlock, a_blockStamp, a_replicaHeld, a_replicaStamp, a_unitCount, a_unitValue⟩ h1 h2 h3 hp
    unfold wX_append_210 wpX_addUnit
    refine xm_lastBlock (u := (f_active, f_epoch, a_dataNodeDown, a_journalDown, a_masterDown, a_inTouch, a_promise, a_base, a_logLength, a_logEpoch, a_logKind, a_logA, a_logB, a_logC, a_inodeState, a_inodePlace, a_inodeClient, a_closeUnits, a_rowLength, a_rowBlock, a_blockStamp, a_replicaHeld, a_replicaStamp, a_unitCount, a_unitValue)) h1 hI hn (fun z => by omega) (fun z => ?_)
    rw [hbb]
    refine br_f (ix_m1 (by omega)) (xm_firstGoodNode (u := (f_active, f_epoch, a_dataNodeDown, a_journalDown, a_masterDown, a_inTouch, a_promise, a_base, a_logLength, a_logEpoch, a_logKind, a_logA, a_logB, a_logC, a_inodeState, a_inodePlace, a_inodeClient, a_closeUnits, a_rowLength, a_rowBlock, a_blockStamp, a_replicaHeld, a_replicaStamp, a_unitCount, a_unitValue)) h1 hI h3 hb hb16 hm ?_)
    rw [ls_vS hm5]
    refine br_f (ix_m1 (by omega)) (nm_r (mu_r m 16 b) (xm_putUnitG (u := (f_active, f_epoch, a_dataNodeDown, a_journalDown, a_masterDown, a_inTouch, a_promise, a_base, a_logLength, a_logEpoch, a_logKind, a_logA, a_logB, a_logC, a_inodeState, a_inodePlace, a_inodeClient, a_closeUnits, a_rowLength, a_rowBlock, a_blockStamp, a_replicaHeld, a_replicaStamp, a_unitCount, a_unitValue)) h1 h2 h3 hc hu ?_))
    rintro ⟨f_active, f_epoch, a_dataNodeDown, a_journalDown, a_masterDown, a_inTouch, a_promise, a_base, a_logLength, a_logEpoch, a_logKind, a_logA, a_logB, a_logC, a_inodeState, a_inodePlace, a_inodeClient, a_closeUnits, a_rowLength, a_rowBlock, a_blockStamp, a_replicaHeld, a_replicaStamp, a_unitCount, a_unitValue⟩ g1 g2 g3
    have e : a_unitCount (nI (16 * m + b)).toNatClampNeg = nI (un (16 * m + b) + 1) := by rw [hcc, g3.2.2.2.1 _ hc, qt_us]
    refine ⟨hv, ?_⟩
    dsimp only
    rw [e]
    exact hp _ g1 g2 g3
  · rintro post ⟨f_active, f_epoch, a_nodeUp, a_journalUp, a_masterUp, a_touch, a_log, a_many, a_promise, a_base, a_stamp, a_units, a_unit, a_sort, a_placeOf, a_client, a_rowLength, a_row, a_closedWith, a_stampOf⟩ h1 h2 h3 hp
    unfold wY_append_304
    refine ym_first (v := (f_active, f_epoch, a_nodeUp, a_journalUp, a_masterUp, a_touch, a_log, a_many, a_promise, a_base, a_stamp, a_units, a_unit, a_sort, a_placeOf, a_client, a_rowLength, a_row, a_closedWith, a_stampOf)) h1 hI h3 hb hb16 hin hm ?_
    rw [ls_vS hm5]
    obtain ⟨mu, ju, ac, ep, to, pr, ba, le, lg⟩ := L
    obtain ⟨l1, l2, l3, l4, l5, l6, l7, l8, l9⟩ := h2
    obtain ⟨d1, d2, d3, d4⟩ := h3
    rw [show 16 * nI m + nI b = nI (16 * m + b) from mu_l m 16 b, hcc, d3 _ hc, show 8 * nI (16 * m + b) + nI (un (16 * m + b)) = nI (8 * (16 * m + b) + un (16 * m + b)) from mu_l _ 8 _, show (nI (8 * (16 * m + b) + un (16 * m + b))).toNatClampNeg = 8 * (16 * m + b) + un (16 * m + b) from nI_clamp (by omega), nI_1]
    refine ⟨hv, vp_in_nI (by omega) (by decide), nm_e ⟨hv, hv, nm_e ⟨hv, ?_⟩⟩⟩
    rw [pk_us]
    refine hp _ ⟨l1, l2, l3, l4, l5, l6, l7, l8, l9⟩ ⟨d1, d2, ?_, ?_⟩
    · intro j hj
      by_cases z : j = 16 * m + b
      · subst z; rw [pk_us, qt_us]
      · rw [pk_un z, qt_un z]; exact d3 j hj
    · rw [d4]
theorem ap_ext {b : Nat} {x4 : Int32} (hI : qt_iv T) (hiv : lj_iv k L T) (hD : rd_iv L (nu, st, un, ua)) (hb : rd_bd (nu, st, un, ua)) (hac : 0 < lj_ac L) (he : lj_ep L ≤ 512) (hrm : lj_rm L 1) (hn : n < 12) (hs : qt_so T n = 2) (hr : qt_rl T n < 3) (hfree : ls_f (fun b => ¬ qt_in (qt_rl T) (qt_ro T) b) 16 b) (hb16 : b < 16) (hup : rd_il nu st (fun _ => true) 5 ≠ 0) :
    oc k T L (nu, st, un, ua) (fun post u => match u with | (f_active, f_epoch, a_dataNodeDown, a_journalDown, a_masterDown, a_inTouch, a_promise, a_base, a_logLength, a_logEpoch, a_logKind, a_logA, a_logB, a_logC, a_inodeState, a_inodePlace, a_inodeClient, a_closeUnits, a_rowLength, a_rowBlock, a_blockStamp, a_replicaHeld, a_replicaStamp, a_unitCount, a_unitValue) => wX_append_194 post (nI n) x 1 f_active f_epoch a_dataNodeDown a_journalDown a_masterDown a_inTouch a_promise a_base a_logLength a_logEpoch a_logKind a_logA a_logB a_logC a_inodeState a_inodePlace a_inodeClient a_closeUnits a_rowLength a_rowBlock a_blockStamp a_replicaHeld a_replicaStamp a_unitCount a_unitValue) (fun post v => match v with | (f_active, f_epoch, a_nodeUp, a_journalUp, a_masterUp, a_touch, a_log, a_many, a_promise, a_base, a_stamp, a_units, a_unit, a_sort, a_placeOf, a_client, a_rowLength, a_row, a_closedWith, a_stampOf) => wY_append_264 post (nI n) x x4 8 (nI b) f_active f_epoch a_nodeUp a_journalUp a_masterUp a_touch a_log a_many a_promise a_base a_stamp a_units a_unit a_sort a_placeOf a_client a_rowLength a_row a_closedWith a_stampOf) := by
  have ho : qt_ok T (lj_ep L, 1, n, b, 1) := ⟨he, Or.inr (Or.inl ⟨rfl, hn, hs, hr, hb16, rfl⟩)⟩
  have W := lj_wrI hiv hac hrm ho
  have hlen := lj_rmL hiv hac hrm
  have hS := rd_ivS hD hac
  have hx := rd_ch1 hup
  have r1 : ∀ c, c < 80 → rd_set (2048 * lj_ep L + lj_len L + 1) (rd_ch nu st 3) b st c ≤ 2048 * lj_ep L + lj_len L + 1 := fun c hc => rd_setB (Nat.le_refl _) (by have := hS c hc; omega)
  have r2 : ∀ c, c < 80 → rd_set 0 (rd_ch nu st 3) b un c ≤ 8 := fun c hc => rd_setB (by decide) (hD.2 c hc)
  have r3 := rd_new (nu := nu) (ch := rd_ch nu st 3) (st' := rd_set (2048 * lj_ep L + lj_len L + 1) (rd_ch nu st 3) b st) hb16 hS (fun d _ hg => rd_chU hg) hx (fun d _ => rd_setA hb16)
  have hRI : rd_iv (lj_wr L 1 n b 1) (nu, rd_set (2048 * lj_ep L + lj_len L + 1) (rd_ch nu st 3) b st, rd_set 0 (rd_ch nu st 3) b un, ua) := rd_wrI hiv hac r1 r2
  cases hkp : lj_kept L with
  | true =>
    rw [if_pos hkp] at W
    have hI1 := qt_ivAp hI ho (show lj_len L < 1000 by omega)
    obtain ⟨q1, q2, q3, q4⟩ := qt_ap1 (T := T) (e := lj_ep L) (a := n) (b := b) (c := 1) (k := lj_len L)
    have hac1 := (lj_wrN (q := 1) (a := n) (b := b) (c := 1) hiv hac hkp).2.1
    have hbd : rd_bd (nu, rd_set (2048 * lj_ep L + lj_len L + 1) (rd_ch nu st 3) b st, rd_set 0 (rd_ch nu st 3) b un, ua) := ⟨fun c hc => by have := r1 c hc; omega, r2⟩
    obtain ⟨m, hm⟩ := ls_ex (fun d => rd_g nu (rd_set (2048 * lj_ep L + lj_len L + 1) (rd_ch nu st 3) b st) b (qt_sp (qt_ap T (lj_ep L, 1, n, b, 1) (lj_len L)) b) d = true) 5
    have hsp : qt_sp (qt_ap T (lj_ep L, 1, n, b, 1) (lj_len L)) b = 2048 * lj_ep L + lj_len L := by rw [q4, qt_us]
    have hm5 : m < 5 := by
      obtain ⟨d, hd, hg⟩ := hx
      refine ls_some hm hd ?_
      show rd_g nu _ b _ d = true
      rw [hsp, r3 d hd]; exact hg
    have hmg : rd_ch nu st 3 m = true := by
      have : rd_g nu (rd_set (2048 * lj_ep L + lj_len L + 1) (rd_ch nu st 3) b st) b (qt_sp (qt_ap T (lj_ep L, 1, n, b, 1) (lj_len L)) b) m = true := hm.2.2 hm5
      rw [hsp, r3 m hm5] at this
      exact this
    have hu0 : rd_set 0 (rd_ch nu st 3) b un (16 * m + b) < 8 := by rw [rd_setA hb16, if_pos hmg]; decide
    have E := ap_unit (x := x) (ua := ua) (n := n) (b := b) (m := m) hI1 W hRI hbd hn (by rw [q2, qt_us]; omega) (by rw [q2, q3, qt_us, show qt_rl T n + 1 - 1 = qt_rl T n by omega, qt_us]) hm hm5 hu0
    obtain ⟨r, T', L', D', a1, a2, a3, a4, a5⟩ := E
    refine ⟨r, T', L', D', a1, a2, a3, ?_, ?_⟩
    · rintro post ⟨f_active, f_epoch, a_dataNodeDown, a_journalDown, a_masterDown, a_inTouch, a_promise, a_base, a_logLength, a_logEpoch, a_logKind, a_logA, a_logB, a_logC, a_inodeState, a_inodePlace, a_inodeClient, a_closeUnits, a_rowLength, a_rowBlock, a_blockStamp, a_replicaHeld, a_replicaStamp, a_unitCount, a_unitValue⟩ h1 h2 h3 hp
      refine br_f bo_1 (xm_addBlockG h1 hI h2 h3 hac hiv hrm hb16 hfree ho (fun _ => ?_) (fun z => absurd (hkp.symm.trans z) (by decide)))
      rintro ⟨f_active, f_epoch, a_dataNodeDown, a_journalDown, a_masterDown, a_inTouch, a_promise, a_base, a_logLength, a_logEpoch, a_logKind, a_logA, a_logB, a_logC, a_inodeState, a_inodePlace, a_inodeClient, a_closeUnits, a_rowLength, a_rowBlock, a_blockStamp, a_replicaHeld, a_replicaStamp, a_unitCount, a_unitValue⟩ g1 g2 g3
      exact br_f bo_1 (a4 post (f_active, f_epoch, a_dataNodeDown, a_journalDown, a_masterDown, a_inTouch, a_promise, a_base, a_logLength, a_logEpoch, a_logKind, a_logA, a_logB, a_logC, a_inodeState, a_inodePlace, a_inodeClient, a_closeUnits, a_rowLength, a_rowBlock, a_blockStamp, a_replicaHeld, a_replicaStamp, a_unitCount, a_unitValue) g1 g2 g3 hp)
    · rintro post ⟨f_active, f_epoch, a_nodeUp, a_journalUp, a_masterUp, a_touch, a_log, a_many, a_promise, a_base, a_stamp, a_units, a_unit, a_sort, a_placeOf, a_client, a_rowLength, a_row, a_closedWith, a_stampOf⟩ h1 h2 h3 hp
      refine br_t rfl (ym_placeG h1 h2 h3 hb hb16 ?_)
      rintro ⟨f_active, f_epoch, a_nodeUp, a_journalUp, a_masterUp, a_touch, a_log, a_many, a_promise, a_base, a_stamp, a_units, a_unit, a_sort, a_placeOf, a_client, a_rowLength, a_row, a_closedWith, a_stampOf⟩ k1 k2 k3
      refine ym_writeG (q := 1) k2 k3 hiv ho (fun _ => ?_) (fun z => absurd (hkp.symm.trans z) (by decide))
      rintro ⟨f_active, f_epoch, a_nodeUp, a_journalUp, a_masterUp, a_touch, a_log, a_many, a_promise, a_base, a_stamp, a_units, a_unit, a_sort, a_placeOf, a_client, a_rowLength, a_row, a_closedWith, a_stampOf⟩ g2 g3
      refine br_f bo_1 (ym_tellL (v := (f_active, f_epoch, a_nodeUp, a_journalUp, a_masterUp, a_touch, a_log, a_many, a_promise, a_base, a_stamp, a_units, a_unit, a_sort, a_placeOf, a_client, a_rowLength, a_row, a_closedWith, a_stampOf)) W g2 g3 ?_)
      rintro ⟨f_active, f_epoch, a_nodeUp, a_journalUp, a_masterUp, a_touch, a_log, a_many, a_promise, a_base, a_stamp, a_units, a_unit, a_sort, a_placeOf, a_client, a_rowLength, a_row, a_closedWith, a_stampOf⟩ m1 m2 m3
      exact a5 post (f_active, f_epoch, a_nodeUp, a_journalUp, a_masterUp, a_touch, a_log, a_many, a_promise, a_base, a_stamp, a_units, a_unit, a_sort, a_placeOf, a_client, a_rowLength, a_row, a_closedWith, a_stampOf) (m1 (by rw [hac1]; exact hac)) m2 m3 hp
  | false =>
    rw [if_neg (by rw [hkp]; decide)] at W
    refine ⟨-3, T, lj_wr L 1 n b 1, _, hI, W, hRI, ?_, ?_⟩
    · rintro post ⟨f_active, f_epoch, a_dataNodeDown, a_journalDown, a_masterDown, a_inTouch, a_promise, a_base, a_logLength, a_logEpoch, a_logKind, a_logA, a_logB, a_logC, a_inodeState, a_inodePlace, a_inodeClient, a_closeUnits, a_rowLength, a_rowBlock, a_blockStamp, a_replicaHeld, a_replicaStamp, a_unitCount, a_unitValue⟩ h1 h2 h3 hp
      refine br_f bo_1 (xm_addBlockG h1 hI h2 h3 hac hiv hrm hb16 hfree ho (fun z => absurd (hkp.symm.trans z) (by decide)) (fun _ => ?_))
      rintro ⟨f_active, f_epoch, a_dataNodeDown, a_journalDown, a_masterDown, a_inTouch, a_promise, a_base, a_logLength, a_logEpoch, a_logKind, a_logA, a_logB, a_logC, a_inodeState, a_inodePlace, a_inodeClient, a_closeUnits, a_rowLength, a_rowBlock, a_blockStamp, a_replicaHeld, a_replicaStamp, a_unitCount, a_unitValue⟩ g1 g2 g3
      exact br_t rfl (hp _ g1 g2 g3)
    · rintro post ⟨f_active, f_epoch, a_nodeUp, a_journalUp, a_masterUp, a_touch, a_log, a_many, a_promise, a_base, a_stamp, a_units, a_unit, a_sort, a_placeOf, a_client, a_rowLength, a_row, a_closedWith, a_stampOf⟩ h1 h2 h3 hp
      refine br_t rfl (ym_placeG h1 h2 h3 hb hb16 ?_)
      rintro ⟨f_active, f_epoch, a_nodeUp, a_journalUp, a_masterUp, a_touch, a_log, a_many, a_promise, a_base, a_stamp, a_units, a_unit, a_sort, a_placeOf, a_client, a_rowLength, a_row, a_closedWith, a_stampOf⟩ k1 k2 k3
      refine ym_writeG (q := 1) k2 k3 hiv ho (fun z => absurd (hkp.symm.trans z) (by decide)) (fun _ => ?_)
      rintro ⟨f_active, f_epoch, a_nodeUp, a_journalUp, a_masterUp, a_touch, a_log, a_many, a_promise, a_base, a_stamp, a_units, a_unit, a_sort, a_placeOf, a_client, a_rowLength, a_row, a_closedWith, a_stampOf⟩ g2 g3
      exact br_t rfl (hp _ g2 g3)
end
end
section
/-! append: renewal, room -/
section
variable {k : Nat} {T : qt_T} {L : lj_L} {nu : Nat → Bool} {st un : Nat → Nat} {ua : Nat → Int32} {n : Nat} {x : Int32}
theorem lj_rm0 (hiv : lj_iv k L T) : lj_rm L 0 := by
  obtain ⟨mu, ju, ac, ep, to, pr, ba, le, lg⟩ := L
  intro j hj _
  have := hiv.2.2.2.2.1 j hj
  exact ⟨fun _ => by omega, by omega⟩
theorem lj_rm21 (h : lj_rm L 2) : lj_rm L 1 := by
  obtain ⟨mu, ju, ac, ep, to, pr, ba, le, lg⟩ := L
  intro j hj ht
  have := h j hj ht
  exact ⟨fun z => by have := this.1 z; omega, by omega⟩
theorem ap_renE {b b' l : Nat} (hk : k ≤ 2048) (hI : qt_iv T) (hiv : lj_iv k L T) (hD : rd_iv L (nu, st, un, ua)) (hb : rd_bd (nu, st, un, ua)) (hac : 0 < lj_ac L) (he : lj_ep L ≤ 512) (hrm : lj_rm L 2) (hn : n < 12) (hs : qt_so T n = 2) (hr : qt_rl T n < 3) (hfree : ls_f (fun b => ¬ qt_in (qt_rl T) (qt_ro T) b) 16 b') (hb16' : b' < 16) (hup : rd_il nu st (fun _ => true) 5 ≠ 0) (hb16 : b < 16) (hin : qt_in (qt_rl T) (qt_ro T) b) (hl : l ≤ 8) (hfw : rd_fw (rd_g nu st b (qt_sp T b)) un b 5 = l + 1) :
    oc k T L (nu, st, un, ua) (fun post u => match u with | (f_active, f_epoch, a_dataNodeDown, a_journalDown, a_masterDown, a_inTouch, a_promise, a_base, a_logLength, a_logEpoch, a_logKind, a_logA, a_logB, a_logC, a_inodeState, a_inodePlace, a_inodeClient, a_closeUnits, a_rowLength, a_rowBlock, a_blockStamp, a_replicaHeld, a_replicaStamp, a_unitCount, a_unitValue) => wX_append_177 post (nI n) x (nI b) 1 1 f_active f_epoch a_dataNodeDown a_journalDown a_masterDown a_inTouch a_promise a_base a_logLength a_logEpoch a_logKind a_logA a_logB a_logC a_inodeState a_inodePlace a_inodeClient a_closeUnits a_rowLength a_rowBlock a_blockStamp a_replicaHeld a_replicaStamp a_unitCount a_unitValue) (fun post v => match v with | (f_active, f_epoch, a_nodeUp, a_journalUp, a_masterUp, a_touch, a_log, a_many, a_promise, a_base, a_stamp, a_units, a_unit, a_sort, a_placeOf, a_client, a_rowLength, a_row, a_closedWith, a_stampOf) => wY_append_247 post (nI n) x (nI b) 1 8 (nI b') f_active f_epoch a_nodeUp a_journalUp a_masterUp a_touch a_log a_many a_promise a_base a_stamp a_units a_unit a_sort a_placeOf a_client a_rowLength a_row a_closedWith a_stampOf) := by
  have hrm1 := lj_rm21 hrm
  have ho : qt_ok T (lj_ep L, 2, b, 0, 1) := ⟨he, Or.inr (Or.inr (Or.inl ⟨rfl, hb16, rfl, rfl⟩))⟩
  have W := lj_wrI hiv hac hrm1 ho
  have hlen := lj_rmL hiv hac hrm
  have hx : ∃ d, d < 5 ∧ rd_g nu st b (qt_sp T b) d = true := by
    obtain ⟨d, h1, h2, _⟩ := rd_fwA (f := rd_g nu st b (qt_sp T b)) (un := un) (b := b) (n := 5) (by omega)
    exact ⟨d, h1, h2⟩
  obtain ⟨r1, r2, r3, r4⟩ := rd_rnG hI hiv hD hac he hrm1 hb16 hl hx
  have hRI : rd_iv (lj_wr L 2 b 0 1) (nu, rd_set (2048 * lj_ep L + lj_len L + 1) (rd_g nu st b (qt_sp T b)) b st, rd_set l (rd_g nu st b (qt_sp T b)) b un, ua) := rd_wrI hiv hac r1 r2
  cases hkp : lj_kept L with
  | true =>
    rw [if_pos hkp] at W
    obtain ⟨e1, e2, e3⟩ := lj_wrN (q := 2) (a := b) (b := 0) (c := 1) hiv hac hkp
    have hI1 := qt_ivAp hI ho (show lj_len L < 1000 by omega)
    obtain ⟨q1, q2, q3, q4⟩ := qt_ap2 (T := T) (e := lj_ep L) (a := b) (b := 0) (c := 1) (k := lj_len L)
    have hbd : rd_bd (nu, rd_set (2048 * lj_ep L + lj_len L + 1) (rd_g nu st b (qt_sp T b)) b st, rd_set l (rd_g nu st b (qt_sp T b)) b un, ua) := ⟨fun c hc => by have := r1 c hc; omega, r2⟩
    have hup1 : rd_il nu (rd_set (2048 * lj_ep L + lj_len L + 1) (rd_g nu st b (qt_sp T b)) b st) (fun _ => true) 5 ≠ 0 := by
      rcases rd_ilP (nu := nu) (st := st) (ok := fun _ => true) (n := 5) with z | ⟨z1, _, z3⟩
      · exact absurd z hup
      · exact rd_il0 (d := rd_il nu st (fun _ => true) 5 - 1) (by omega) rfl z3
    have E := ap_ext (x := x) (ua := ua) (n := n) (b := b') (x4 := nI b) hI1 W hRI hbd (by rw [e2]; exact hac) (by rw [e3]; exact he) (lj_wrR hrm) hn (by rw [q1]; exact hs) (by rw [q2]; exact hr) (by rw [q2, q3]; exact hfree) hb16' hup1
    obtain ⟨r, T', L', D', a1, a2, a3, a4, a5⟩ := E
    refine ⟨r, T', L', D', a1, a2, a3, ?_, ?_⟩
    · rintro post ⟨f_active, f_epoch, a_dataNodeDown, a_journalDown, a_masterDown, a_inTouch, a_promise, a_base, a_logLength, a_logEpoch, a_logKind, a_logA, a_logB, a_logC, a_inodeState, a_inodePlace, a_inodeClient, a_closeUnits, a_rowLength, a_rowBlock, a_blockStamp, a_replicaHeld, a_replicaStamp, a_unitCount, a_unitValue⟩ h1 h2 h3 hp
      refine br_f bo_1 (xm_renewG h1 hI h2 h3 hb hac hiv he hrm1 hb16 hfw (fun _ => ?_) (fun z => absurd (hkp.symm.trans z) (by decide)))
      rintro ⟨f_active, f_epoch, a_dataNodeDown, a_journalDown, a_masterDown, a_inTouch, a_promise, a_base, a_logLength, a_logEpoch, a_logKind, a_logA, a_logB, a_logC, a_inodeState, a_inodePlace, a_inodeClient, a_closeUnits, a_rowLength, a_rowBlock, a_blockStamp, a_replicaHeld, a_replicaStamp, a_unitCount, a_unitValue⟩ g1 g2 g3
      exact br_f bo_1 (a4 post (f_active, f_epoch, a_dataNodeDown, a_journalDown, a_masterDown, a_inTouch, a_promise, a_base, a_logLength, a_logEpoch, a_logKind, a_logA, a_logB, a_logC, a_inodeState, a_inodePlace, a_inodeClient, a_closeUnits, a_rowLength, a_rowBlock, a_blockStamp, a_replicaHeld, a_replicaStamp, a_unitCount, a_unitValue) g1 g2 g3 hp)
    · rintro post ⟨f_active, f_epoch, a_nodeUp, a_journalUp, a_masterUp, a_touch, a_log, a_many, a_promise, a_base, a_stamp, a_units, a_unit, a_sort, a_placeOf, a_client, a_rowLength, a_row, a_closedWith, a_stampOf⟩ h1 h2 h3 hp
      refine br_f bo_1 (ym_renewG h1 hI h2 h3 hb hac hiv he hrm1 hb16 hin hfw (fun _ => ?_) (fun z => absurd (hkp.symm.trans z) (by decide)))
      rintro ⟨f_active, f_epoch, a_nodeUp, a_journalUp, a_masterUp, a_touch, a_log, a_many, a_promise, a_base, a_stamp, a_units, a_unit, a_sort, a_placeOf, a_client, a_rowLength, a_row, a_closedWith, a_stampOf⟩ g1 g2 g3
      exact br_f bo_1 (a5 post (f_active, f_epoch, a_nodeUp, a_journalUp, a_masterUp, a_touch, a_log, a_many, a_promise, a_base, a_stamp, a_units, a_unit, a_sort, a_placeOf, a_client, a_rowLength, a_row, a_closedWith, a_stampOf) g1 g2 g3 hp)
  | false =>
    rw [if_neg (by rw [hkp]; decide)] at W
    refine ⟨-3, T, lj_wr L 2 b 0 1, _, hI, W, hRI, ?_, ?_⟩
    · rintro post ⟨f_active, f_epoch, a_dataNodeDown, a_journalDown, a_masterDown, a_inTouch, a_promise, a_base, a_logLength, a_logEpoch, a_logKind, a_logA, a_logB, a_logC, a_inodeState, a_inodePlace, a_inodeClient, a_closeUnits, a_rowLength, a_rowBlock, a_blockStamp, a_replicaHeld, a_replicaStamp, a_unitCount, a_unitValue⟩ h1 h2 h3 hp
      refine br_f bo_1 (xm_renewG h1 hI h2 h3 hb hac hiv he hrm1 hb16 hfw (fun z => absurd (hkp.symm.trans z) (by decide)) (fun _ => ?_))
      rintro ⟨f_active, f_epoch, a_dataNodeDown, a_journalDown, a_masterDown, a_inTouch, a_promise, a_base, a_logLength, a_logEpoch, a_logKind, a_logA, a_logB, a_logC, a_inodeState, a_inodePlace, a_inodeClient, a_closeUnits, a_rowLength, a_rowBlock, a_blockStamp, a_replicaHeld, a_replicaStamp, a_unitCount, a_unitValue⟩ g1 g2 g3
      exact br_t rfl (hp _ g1 g2 g3)
    · rintro post ⟨f_active, f_epoch, a_nodeUp, a_journalUp, a_masterUp, a_touch, a_log, a_many, a_promise, a_base, a_stamp, a_units, a_unit, a_sort, a_placeOf, a_client, a_rowLength, a_row, a_closedWith, a_stampOf⟩ h1 h2 h3 hp
      refine br_f bo_1 (ym_renewG h1 hI h2 h3 hb hac hiv he hrm1 hb16 hin hfw (fun z => absurd (hkp.symm.trans z) (by decide)) (fun _ => ?_))
      rintro ⟨f_active, f_epoch, a_nodeUp, a_journalUp, a_masterUp, a_touch, a_log, a_many, a_promise, a_base, a_stamp, a_units, a_unit, a_sort, a_placeOf, a_client, a_rowLength, a_row, a_closedWith, a_stampOf⟩ g2 g3
      exact br_t rfl (hp _ g2 g3)
theorem ap_renU {b l m : Nat} {x8 : Int32} (hk : k ≤ 2048) (hI : qt_iv T) (hiv : lj_iv k L T) (hD : rd_iv L (nu, st, un, ua)) (hb : rd_bd (nu, st, un, ua)) (hac : 0 < lj_ac L) (he : lj_ep L ≤ 512) (hrm1 : lj_rm L 1) (hn : n < 12) (hr0 : 0 < qt_rl T n) (hbb : qt_ro T (3 * n + (qt_rl T n - 1)) = b) (hm : ls_f (fun d => rd_g nu st b (qt_sp T b) d = true) 5 m) (hm5 : m < 5) (hl : l < 8) (hfw : rd_fw (rd_g nu st b (qt_sp T b)) un b 5 = l + 1) :
    oc k T L (nu, st, un, ua) (fun post u => match u with | (f_active, f_epoch, a_dataNodeDown, a_journalDown, a_masterDown, a_inTouch, a_promise, a_base, a_logLength, a_logEpoch, a_logKind, a_logA, a_logB, a_logC, a_inodeState, a_inodePlace, a_inodeClient, a_closeUnits, a_rowLength, a_rowBlock, a_blockStamp, a_replicaHeld, a_replicaStamp, a_unitCount, a_unitValue) => wX_append_177 post (nI n) x (nI b) 1 0 f_active f_epoch a_dataNodeDown a_journalDown a_masterDown a_inTouch a_promise a_base a_logLength a_logEpoch a_logKind a_logA a_logB a_logC a_inodeState a_inodePlace a_inodeClient a_closeUnits a_rowLength a_rowBlock a_blockStamp a_replicaHeld a_replicaStamp a_unitCount a_unitValue) (fun post v => match v with | (f_active, f_epoch, a_nodeUp, a_journalUp, a_masterUp, a_touch, a_log, a_many, a_promise, a_base, a_stamp, a_units, a_unit, a_sort, a_placeOf, a_client, a_rowLength, a_row, a_closedWith, a_stampOf) => wY_append_247 post (nI n) x (nI b) 1 (nI l) x8 f_active f_epoch a_nodeUp a_journalUp a_masterUp a_touch a_log a_many a_promise a_base a_stamp a_units a_unit a_sort a_placeOf a_client a_rowLength a_row a_closedWith a_stampOf) := by
  have hb16 : b < 16 := by rw [← hbb]; exact qt_iv5 hI n (qt_rl T n - 1) hn (by omega)
  have hin : qt_in (qt_rl T) (qt_ro T) b := ⟨n, qt_rl T n - 1, hn, by omega, hbb⟩
  have ho : qt_ok T (lj_ep L, 2, b, 0, 1) := ⟨he, Or.inr (Or.inr (Or.inl ⟨rfl, hb16, rfl, rfl⟩))⟩
  have W := lj_wrI hiv hac hrm1 ho
  have hlen := lj_rmL hiv hac hrm1
  have hx : ∃ d, d < 5 ∧ rd_g nu st b (qt_sp T b) d = true := ⟨m, hm5, hm.2.2 hm5⟩
  obtain ⟨r1, r2, r3, r4⟩ := rd_rnG hI hiv hD hac he hrm1 hb16 (show l ≤ 8 by omega) hx
  have hRI : rd_iv (lj_wr L 2 b 0 1) (nu, rd_set (2048 * lj_ep L + lj_len L + 1) (rd_g nu st b (qt_sp T b)) b st, rd_set l (rd_g nu st b (qt_sp T b)) b un, ua) := rd_wrI hiv hac r1 r2
  cases hkp : lj_kept L with
  | true =>
    rw [if_pos hkp] at W
    have hI1 := qt_ivAp hI ho (show lj_len L < 1000 by omega)
    obtain ⟨q1, q2, q3, q4⟩ := qt_ap2 (T := T) (e := lj_ep L) (a := b) (b := 0) (c := 1) (k := lj_len L)
    have hbd : rd_bd (nu, rd_set (2048 * lj_ep L + lj_len L + 1) (rd_g nu st b (qt_sp T b)) b st, rd_set l (rd_g nu st b (qt_sp T b)) b un, ua) := ⟨fun c hc => by have := r1 c hc; omega, r2⟩
    have hsp : qt_sp (qt_ap T (lj_ep L, 2, b, 0, 1) (lj_len L)) b = 2048 * lj_ep L + lj_len L := by rw [q4, qt_us]
    have hm' : ls_f (fun d => rd_g nu (rd_set (2048 * lj_ep L + lj_len L + 1) (rd_g nu st b (qt_sp T b)) b st) b (qt_sp (qt_ap T (lj_ep L, 2, b, 0, 1) (lj_len L)) b) d = true) 5 m := ls_c (fun d hd => by rw [hsp, r3 d hd]) hm
    have hu0 : rd_set l (rd_g nu st b (qt_sp T b)) b un (16 * m + b) < 8 := by rw [r4 m hm5 (hm.2.2 hm5)]; exact hl
    have E := ap_unit (x := x) (ua := ua) (n := n) (b := b) (m := m) hI1 W hRI hbd hn (by rw [q2]; exact hr0) (by rw [q2, q3]; exact hbb) hm' hm5 hu0
    obtain ⟨r, T', L', D', a1, a2, a3, a4, a5⟩ := E
    refine ⟨r, T', L', D', a1, a2, a3, ?_, ?_⟩
    · rintro post ⟨f_active, f_epoch, a_dataNodeDown, a_journalDown, a_masterDown, a_inTouch, a_promise, a_base, a_logLength, a_logEpoch, a_logKind, a_logA, a_logB, a_logC, a_inodeState, a_inodePlace, a_inodeClient, a_closeUnits, a_rowLength, a_rowBlock, a_blockStamp, a_replicaHeld, a_replicaStamp, a_unitCount, a_unitValue⟩ h1 h2 h3 hp
      refine br_f bo_1 (xm_renewG h1 hI h2 h3 hb hac hiv he hrm1 hb16 hfw (fun _ => ?_) (fun z => absurd (hkp.symm.trans z) (by decide)))
      rintro ⟨f_active, f_epoch, a_dataNodeDown, a_journalDown, a_masterDown, a_inTouch, a_promise, a_base, a_logLength, a_logEpoch, a_logKind, a_logA, a_logB, a_logC, a_inodeState, a_inodePlace, a_inodeClient, a_closeUnits, a_rowLength, a_rowBlock, a_blockStamp, a_replicaHeld, a_replicaStamp, a_unitCount, a_unitValue⟩ g1 g2 g3
      exact br_f bo_1 (br_t rfl (a4 post (f_active, f_epoch, a_dataNodeDown, a_journalDown, a_masterDown, a_inTouch, a_promise, a_base, a_logLength, a_logEpoch, a_logKind, a_logA, a_logB, a_logC, a_inodeState, a_inodePlace, a_inodeClient, a_closeUnits, a_rowLength, a_rowBlock, a_blockStamp, a_replicaHeld, a_replicaStamp, a_unitCount, a_unitValue) g1 g2 g3 hp))
    · rintro post ⟨f_active, f_epoch, a_nodeUp, a_journalUp, a_masterUp, a_touch, a_log, a_many, a_promise, a_base, a_stamp, a_units, a_unit, a_sort, a_placeOf, a_client, a_rowLength, a_row, a_closedWith, a_stampOf⟩ h1 h2 h3 hp
      refine br_f bo_1 (ym_renewG h1 hI h2 h3 hb hac hiv he hrm1 hb16 hin hfw (fun _ => ?_) (fun z => absurd (hkp.symm.trans z) (by decide)))
      rintro ⟨f_active, f_epoch, a_nodeUp, a_journalUp, a_masterUp, a_touch, a_log, a_many, a_promise, a_base, a_stamp, a_units, a_unit, a_sort, a_placeOf, a_client, a_rowLength, a_row, a_closedWith, a_stampOf⟩ g1 g2 g3
      exact br_f bo_1 (br_f (fun z => by have := (nI_eq (b := 8) (by omega) (by decide)).mp z; omega) (a5 post (f_active, f_epoch, a_nodeUp, a_journalUp, a_masterUp, a_touch, a_log, a_many, a_promise, a_base, a_stamp, a_units, a_unit, a_sort, a_placeOf, a_client, a_rowLength, a_row, a_closedWith, a_stampOf) g1 g2 g3 hp))
  | false =>
    rw [if_neg (by rw [hkp]; decide)] at W
    refine ⟨-3, T, lj_wr L 2 b 0 1, _, hI, W, hRI, ?_, ?_⟩
    · rintro post ⟨f_active, f_epoch, a_dataNodeDown, a_journalDown, a_masterDown, a_inTouch, a_promise, a_base, a_logLength, a_logEpoch, a_logKind, a_logA, a_logB, a_logC, a_inodeState, a_inodePlace, a_inodeClient, a_closeUnits, a_rowLength, a_rowBlock, a_blockStamp, a_replicaHeld, a_replicaStamp, a_unitCount, a_unitValue⟩ h1 h2 h3 hp
      refine br_f bo_1 (xm_renewG h1 hI h2 h3 hb hac hiv he hrm1 hb16 hfw (fun z => absurd (hkp.symm.trans z) (by decide)) (fun _ => ?_))
      rintro ⟨f_active, f_epoch, a_dataNodeDown, a_journalDown, a_masterDown, a_inTouch, a_promise, a_base, a_logLength, a_logEpoch, a_logKind, a_logA, a_logB, a_logC, a_inodeState, a_inodePlace, a_inodeClient, a_closeUnits, a_rowLength, a_rowBlock, a_blockStamp, a_replicaHeld, a_replicaStamp, a_unitCount, a_unitValue⟩ g1 g2 g3
      exact br_t rfl (hp _ g1 g2 g3)
    · rintro post ⟨f_active, f_epoch, a_nodeUp, a_journalUp, a_masterUp, a_touch, a_log, a_many, a_promise, a_base, a_stamp, a_units, a_unit, a_sort, a_placeOf, a_client, a_rowLength, a_row, a_closedWith, a_stampOf⟩ h1 h2 h3 hp
      refine br_f bo_1 (ym_renewG h1 hI h2 h3 hb hac hiv he hrm1 hb16 hin hfw (fun z => absurd (hkp.symm.trans z) (by decide)) (fun _ => ?_))
      rintro ⟨f_active, f_epoch, a_nodeUp, a_journalUp, a_masterUp, a_touch, a_log, a_many, a_promise, a_base, a_stamp, a_units, a_unit, a_sort, a_placeOf, a_client, a_rowLength, a_row, a_closedWith, a_stampOf⟩ g2 g3
      exact br_t rfl (hp _ g2 g3)
def bo_c (h : Bool) : Nat := if h then 1 else 0
/-- a new block is wanted -/
theorem ap_100e {b' : Nat} {x4 : Int32} {h : Bool} (hI : qt_iv T) (hiv : lj_iv k L T) (hD : rd_iv L (nu, st, un, ua)) (hb : rd_bd (nu, st, un, ua)) (hn : n < 12) (hfree : ls_f (fun b => ¬ qt_in (qt_rl T) (qt_ro T) b) 16 b')
    (tail : qt_rl T n < 3 → rd_il nu st (fun _ => true) 5 ≠ 0 → b' < 16 → lj_rm L (bo_c h + 1) → oc k T L (nu, st, un, ua) (fun post u => match u with | (f_active, f_epoch, a_dataNodeDown, a_journalDown, a_masterDown, a_inTouch, a_promise, a_base, a_logLength, a_logEpoch, a_logKind, a_logA, a_logB, a_logC, a_inodeState, a_inodePlace, a_inodeClient, a_closeUnits, a_rowLength, a_rowBlock, a_blockStamp, a_replicaHeld, a_replicaStamp, a_unitCount, a_unitValue) => wX_append_177 post (nI n) x x4 (bo_p h) 1 f_active f_epoch a_dataNodeDown a_journalDown a_masterDown a_inTouch a_promise a_base a_logLength a_logEpoch a_logKind a_logA a_logB a_logC a_inodeState a_inodePlace a_inodeClient a_closeUnits a_rowLength a_rowBlock a_blockStamp a_replicaHeld a_replicaStamp a_unitCount a_unitValue) (fun post v => match v with | (f_active, f_epoch, a_nodeUp, a_journalUp, a_masterUp, a_touch, a_log, a_many, a_promise, a_base, a_stamp, a_units, a_unit, a_sort, a_placeOf, a_client, a_rowLength, a_row, a_closedWith, a_stampOf) => wY_append_247 post (nI n) x x4 (bo_p h) 8 (nI b') f_active f_epoch a_nodeUp a_journalUp a_masterUp a_touch a_log a_many a_promise a_base a_stamp a_units a_unit a_sort a_placeOf a_client a_rowLength a_row a_closedWith a_stampOf)) :
    oc k T L (nu, st, un, ua) (fun post u => match u with | (f_active, f_epoch, a_dataNodeDown, a_journalDown, a_masterDown, a_inTouch, a_promise, a_base, a_logLength, a_logEpoch, a_logKind, a_logA, a_logB, a_logC, a_inodeState, a_inodePlace, a_inodeClient, a_closeUnits, a_rowLength, a_rowBlock, a_blockStamp, a_replicaHeld, a_replicaStamp, a_unitCount, a_unitValue) => wX_append_100 post (nI n) x x4 (bo_p h) 1 f_active f_epoch a_dataNodeDown a_journalDown a_masterDown a_inTouch a_promise a_base a_logLength a_logEpoch a_logKind a_logA a_logB a_logC a_inodeState a_inodePlace a_inodeClient a_closeUnits a_rowLength a_rowBlock a_blockStamp a_replicaHeld a_replicaStamp a_unitCount a_unitValue) (fun post v => match v with | (f_active, f_epoch, a_nodeUp, a_journalUp, a_masterUp, a_touch, a_log, a_many, a_promise, a_base, a_stamp, a_units, a_unit, a_sort, a_placeOf, a_client, a_rowLength, a_row, a_closedWith, a_stampOf) => wY_append_159 post (nI n) x x4 (bo_p h) 8 f_active f_epoch a_nodeUp a_journalUp a_masterUp a_touch a_log a_many a_promise a_base a_stamp a_units a_unit a_sort a_placeOf a_client a_rowLength a_row a_closedWith a_stampOf) := by
  have hv := vp_in_nI hn (by decide : 12 < 2 ^ 31)
  have hr3 := qt_iv4 hI n hn
  have hil : rd_il nu st (fun _ => true) 5 ≤ 5 := by
    rcases rd_ilP (nu := nu) (st := st) (ok := fun _ => true) (n := 5) with y | y <;> omega
  have XX : ∀ (post : Int32 → SX → Prop) f_active f_epoch a_dataNodeDown a_journalDown a_masterDown a_inTouch a_promise a_base a_logLength a_logEpoch a_logKind a_logA a_logB a_logC a_inodeState a_inodePlace a_inodeClient a_closeUnits a_rowLength a_rowBlock a_blockStamp a_replicaHeld a_replicaStamp a_unitCount a_unitValue, sx_T T (f_active, f_epoch, a_dataNodeDown, a_journalDown, a_masterDown, a_inTouch, a_promise, a_base, a_logLength, a_logEpoch, a_logKind, a_logA, a_logB, a_logC, a_inodeState, a_inodePlace, a_inodeClient, a_closeUnits, a_rowLength, a_rowBlock, a_blockStamp, a_replicaHeld, a_replicaStamp, a_unitCount, a_unitValue) → sx_L L (f_active, f_epoch, a_dataNodeDown, a_journalDown, a_masterDown, a_inTouch, a_promise, a_base, a_logLength, a_logEpoch, a_logKind, a_logA, a_logB, a_logC, a_inodeState, a_inodePlace, a_inodeClient, a_closeUnits, a_rowLength, a_rowBlock, a_blockStamp, a_replicaHeld, a_replicaStamp, a_unitCount, a_unitValue) → sx_D (nu, st, un, ua) (f_active, f_epoch, a_dataNodeDown, a_journalDown, a_masterDown, a_inTouch, a_promise, a_base, a_logLength, a_logEpoch, a_logKind, a_logA, a_logB, a_logC, a_inodeState, a_inodePlace, a_inodeClient, a_closeUnits, a_rowLength, a_rowBlock, a_blockStamp, a_replicaHeld, a_replicaStamp, a_unitCount, a_unitValue) → (3 ≤ qt_rl T n → post (-2) (f_active, f_epoch, a_dataNodeDown, a_journalDown, a_masterDown, a_inTouch, a_promise, a_base, a_logLength, a_logEpoch, a_logKind, a_logA, a_logB, a_logC, a_inodeState, a_inodePlace, a_inodeClient, a_closeUnits, a_rowLength, a_rowBlock, a_blockStamp, a_replicaHeld, a_replicaStamp, a_unitCount, a_unitValue)) → (qt_rl T n < 3 → rd_il nu st (fun _ => true) 5 = 0 → post (-2) (f_active, f_epoch, a_dataNodeDown, a_journalDown, a_masterDown, a_inTouch, a_promise, a_base, a_logLength, a_logEpoch, a_logKind, a_logA, a_logB, a_logC, a_inodeState, a_inodePlace, a_inodeClient, a_closeUnits, a_rowLength, a_rowBlock, a_blockStamp, a_replicaHeld, a_replicaStamp, a_unitCount, a_unitValue)) → (qt_rl T n < 3 → rd_il nu st (fun _ => true) 5 ≠ 0 → ¬ lj_rm L (bo_c h + 1) → post (-4) (f_active, f_epoch, a_dataNodeDown, a_journalDown, a_masterDown, a_inTouch, a_promise, a_base, a_logLength, a_logEpoch, a_logKind, a_logA, a_logB, a_logC, a_inodeState, a_inodePlace, a_inodeClient, a_closeUnits, a_rowLength, a_rowBlock, a_blockStamp, a_replicaHeld, a_replicaStamp, a_unitCount, a_unitValue)) → (qt_rl T n < 3 → rd_il nu st (fun _ => true) 5 ≠ 0 → lj_rm L (bo_c h + 1) → b' = 16 → post (-4) (f_active, f_epoch, a_dataNodeDown, a_journalDown, a_masterDown, a_inTouch, a_promise, a_base, a_logLength, a_logEpoch, a_logKind, a_logA, a_logB, a_logC, a_inodeState, a_inodePlace, a_inodeClient, a_closeUnits, a_rowLength, a_rowBlock, a_blockStamp, a_replicaHeld, a_replicaStamp, a_unitCount, a_unitValue)) → (qt_rl T n < 3 → rd_il nu st (fun _ => true) 5 ≠ 0 → lj_rm L (bo_c h + 1) → b' < 16 → wX_append_177 post (nI n) x x4 (bo_p h) 1 f_active f_epoch a_dataNodeDown a_journalDown a_masterDown a_inTouch a_promise a_base a_logLength a_logEpoch a_logKind a_logA a_logB a_logC a_inodeState a_inodePlace a_inodeClient a_closeUnits a_rowLength a_rowBlock a_blockStamp a_replicaHeld a_replicaStamp a_unitCount a_unitValue) → wX_append_100 post (nI n) x x4 (bo_p h) 1 f_active f_epoch a_dataNodeDown a_journalDown a_masterDown a_inTouch a_promise a_base a_logLength a_logEpoch a_logKind a_logA a_logB a_logC a_inodeState a_inodePlace a_inodeClient a_closeUnits a_rowLength a_rowBlock a_blockStamp a_replicaHeld a_replicaStamp a_unitCount a_unitValue := by
    intro post f_active f_epoch a_dataNodeDown a_journalDown a_masterDown a_inTouch a_promise a_base a_logLength a_logEpoch a_logKind a_logA a_logB a_logC a_inodeState a_inodePlace a_inodeClient a_closeUnits a_rowLength a_rowBlock a_blockStamp a_replicaHeld a_replicaStamp a_unitCount a_unitValue h1 h2 h3 k0 k1 k2 k3 k4
    refine br_f bo_1 ⟨hv, cd_if (cd_le (c := 3) (qt_ag5 h1 n hn) (by omega) (by omega) (by decide)) k0 (fun z => ?_)⟩
    have LL : ∀ {P : Int32 → Prop}, P (qt_m (rd_il nu st (fun _ => true) 5)) → wpX_leastLoadedNode P (f_active, f_epoch, a_dataNodeDown, a_journalDown, a_masterDown, a_inTouch, a_promise, a_base, a_logLength, a_logEpoch, a_logKind, a_logA, a_logB, a_logC, a_inodeState, a_inodePlace, a_inodeClient, a_closeUnits, a_rowLength, a_rowBlock, a_blockStamp, a_replicaHeld, a_replicaStamp, a_unitCount, a_unitValue) 0 := by
      intro P hP
      have := xm_leastLoadedNode (u := (f_active, f_epoch, a_dataNodeDown, a_journalDown, a_masterDown, a_inTouch, a_promise, a_base, a_logLength, a_logEpoch, a_logKind, a_logA, a_logB, a_logC, a_inodeState, a_inodePlace, a_inodeClient, a_closeUnits, a_rowLength, a_rowBlock, a_blockStamp, a_replicaHeld, a_replicaStamp, a_unitCount, a_unitValue)) (f := fun _ => false) h3 hP
      rw [rd_mk0] at this
      exact this
    refine LL (cd_if (qt_m0E (by omega)) (fun y => k1 (by omega) y) (fun y => ?_))
    have s149 : ∀ z0 z1 : Int32, z1 + z0 = nI (bo_c h + 1) → wX_append_149 post (nI n) x x4 (bo_p h) 1 z0 z1 f_active f_epoch a_dataNodeDown a_journalDown a_masterDown a_inTouch a_promise a_base a_logLength a_logEpoch a_logKind a_logA a_logB a_logC a_inodeState a_inodePlace a_inodeClient a_closeUnits a_rowLength a_rowBlock a_blockStamp a_replicaHeld a_replicaStamp a_unitCount a_unitValue := by
      intro z0 z1 hz
      refine nm_r hz (xm_lackG (R := bo_c h + 1) h2 hiv (by unfold bo_c; split <;> omega) (fun w => br_f bo_1 (k2 (by omega) y w)) (fun w => br_t rfl (br_f bo_1 (xm_leastFreeBlock (u := (f_active, f_epoch, a_dataNodeDown, a_journalDown, a_masterDown, a_inTouch, a_promise, a_base, a_logLength, a_logEpoch, a_logKind, a_logA, a_logB, a_logC, a_inodeState, a_inodePlace, a_inodeClient, a_closeUnits, a_rowLength, a_rowBlock, a_blockStamp, a_replicaHeld, a_replicaStamp, a_unitCount, a_unitValue)) h1 hI hfree ?_))))
      by_cases hb16 : b' < 16
      · rw [ls_vS hb16]
        exact br_f (ix_m1 (by omega)) (k4 (by omega) y w hb16)
      · have e : b' = 16 := by have := hfree.1; omega
        rw [e, ls_vN]
        exact br_t rfl (k3 (by omega) y w e)
    cases h with
    | false => exact br_t rfl (br_f bo_1 (s149 1 0 (by decide)))
    | true => exact br_f bo_1 (br_f bo_1 (s149 1 1 (by decide)))
  have YY : ∀ (post : Int32 → SY → Prop) f_active f_epoch a_nodeUp a_journalUp a_masterUp a_touch a_log a_many a_promise a_base a_stamp a_units a_unit a_sort a_placeOf a_client a_rowLength a_row a_closedWith a_stampOf, sy_T T (f_active, f_epoch, a_nodeUp, a_journalUp, a_masterUp, a_touch, a_log, a_many, a_promise, a_base, a_stamp, a_units, a_unit, a_sort, a_placeOf, a_client, a_rowLength, a_row, a_closedWith, a_stampOf) → sy_L L (f_active, f_epoch, a_nodeUp, a_journalUp, a_masterUp, a_touch, a_log, a_many, a_promise, a_base, a_stamp, a_units, a_unit, a_sort, a_placeOf, a_client, a_rowLength, a_row, a_closedWith, a_stampOf) → sy_D (nu, st, un, ua) (f_active, f_epoch, a_nodeUp, a_journalUp, a_masterUp, a_touch, a_log, a_many, a_promise, a_base, a_stamp, a_units, a_unit, a_sort, a_placeOf, a_client, a_rowLength, a_row, a_closedWith, a_stampOf) → (3 ≤ qt_rl T n → post (-2) (f_active, f_epoch, a_nodeUp, a_journalUp, a_masterUp, a_touch, a_log, a_many, a_promise, a_base, a_stamp, a_units, a_unit, a_sort, a_placeOf, a_client, a_rowLength, a_row, a_closedWith, a_stampOf)) → (qt_rl T n < 3 → rd_il nu st (fun _ => true) 5 = 0 → post (-2) (f_active, f_epoch, a_nodeUp, a_journalUp, a_masterUp, a_touch, a_log, a_many, a_promise, a_base, a_stamp, a_units, a_unit, a_sort, a_placeOf, a_client, a_rowLength, a_row, a_closedWith, a_stampOf)) → (qt_rl T n < 3 → rd_il nu st (fun _ => true) 5 ≠ 0 → b' = 16 → post (-4) (f_active, f_epoch, a_nodeUp, a_journalUp, a_masterUp, a_touch, a_log, a_many, a_promise, a_base, a_stamp, a_units, a_unit, a_sort, a_placeOf, a_client, a_rowLength, a_row, a_closedWith, a_stampOf)) → (qt_rl T n < 3 → rd_il nu st (fun _ => true) 5 ≠ 0 → b' < 16 → ¬ lj_rm L (bo_c h + 1) → post (-4) (f_active, f_epoch, a_nodeUp, a_journalUp, a_masterUp, a_touch, a_log, a_many, a_promise, a_base, a_stamp, a_units, a_unit, a_sort, a_placeOf, a_client, a_rowLength, a_row, a_closedWith, a_stampOf)) → (qt_rl T n < 3 → rd_il nu st (fun _ => true) 5 ≠ 0 → lj_rm L (bo_c h + 1) → b' < 16 → wY_append_247 post (nI n) x x4 (bo_p h) 8 (nI b') f_active f_epoch a_nodeUp a_journalUp a_masterUp a_touch a_log a_many a_promise a_base a_stamp a_units a_unit a_sort a_placeOf a_client a_rowLength a_row a_closedWith a_stampOf) → wY_append_159 post (nI n) x x4 (bo_p h) 8 f_active f_epoch a_nodeUp a_journalUp a_masterUp a_touch a_log a_many a_promise a_base a_stamp a_units a_unit a_sort a_placeOf a_client a_rowLength a_row a_closedWith a_stampOf := by
    intro post f_active f_epoch a_nodeUp a_journalUp a_masterUp a_touch a_log a_many a_promise a_base a_stamp a_units a_unit a_sort a_placeOf a_client a_rowLength a_row a_closedWith a_stampOf h1 h2 h3 k0 k1 k2 k3 k4
    refine br_t rfl ⟨hv, cd_if (cd_e (c := 3) (qt_ag5 h1 n hn) (by omega) (by omega) (by decide)) (fun z => k0 (by omega)) (fun z => ?_)⟩
    have LL : ∀ {P : Int32 → Prop}, P (qt_m (rd_il nu st (fun _ => true) 5)) → wpY_idlest P (f_active, f_epoch, a_nodeUp, a_journalUp, a_masterUp, a_touch, a_log, a_many, a_promise, a_base, a_stamp, a_units, a_unit, a_sort, a_placeOf, a_client, a_rowLength, a_row, a_closedWith, a_stampOf) 31 := by
      intro P hP
      have := ym_idlest (v := (f_active, f_epoch, a_nodeUp, a_journalUp, a_masterUp, a_touch, a_log, a_many, a_promise, a_base, a_stamp, a_units, a_unit, a_sort, a_placeOf, a_client, a_rowLength, a_row, a_closedWith, a_stampOf)) (f := fun _ => true) h3 hb hP
      rw [rd_mk1] at this
      exact this
    refine LL (cd_if (qt_Nm (s := 0) (by omega) (by decide)) (fun y => ym_unused (v := (f_active, f_epoch, a_nodeUp, a_journalUp, a_masterUp, a_touch, a_log, a_many, a_promise, a_base, a_stamp, a_units, a_unit, a_sort, a_placeOf, a_client, a_rowLength, a_row, a_closedWith, a_stampOf)) h1 hI hfree ?_) (fun y => k1 (by omega) (by omega)))
    by_cases hb16 : b' < 16
    · rw [ls_vS hb16]
      have s227 : ∀ z0 z1 : Int32, z1 + z0 = nI (bo_c h + 1) → wY_append_227 post (nI n) x x4 (bo_p h) 8 (nI b') z0 z1 f_active f_epoch a_nodeUp a_journalUp a_masterUp a_touch a_log a_many a_promise a_base a_stamp a_units a_unit a_sort a_placeOf a_client a_rowLength a_row a_closedWith a_stampOf := by
        intro z0 z1 hz
        exact nm_r hz (br_f (fun w => by have := (nI_leI (b := 0) (by unfold bo_c; split <;> omega) (by decide)).mp w; omega) (ym_manyG (R := bo_c h + 1) h2 hiv (by unfold bo_c; split <;> omega) (fun w => br_f bo_1 (k3 (by omega) (by omega) hb16 w)) (fun w => br_t rfl (k4 (by omega) (by omega) w hb16))))
      refine br_t (ix_0 (by omega)) ?_
      cases h with
      | false => exact br_t rfl (br_t rfl (s227 1 0 (by decide)))
      | true => exact br_f bo_1 (br_t rfl (s227 1 1 (by decide)))
    · have e : b' = 16 := by have := hfree.1; omega
      rw [e, ls_vN]
      exact br_f ix_n1 (k2 (by omega) (by omega) e)
  by_cases c1 : qt_rl T n < 3
  · by_cases c2 : rd_il nu st (fun _ => true) 5 = 0
    · refine oc_n (-2) hI hiv hD ?_ ?_
      · rintro post ⟨f_active, f_epoch, a_dataNodeDown, a_journalDown, a_masterDown, a_inTouch, a_promise, a_base, a_logLength, a_logEpoch, a_logKind, a_logA, a_logB, a_logC, a_inodeState, a_inodePlace, a_inodeClient, a_closeUnits, a_rowLength, a_rowBlock, a_blockStamp, a_replicaHeld, a_replicaStamp, a_unitCount, a_unitValue⟩ h1 h2 h3 hp
        exact XX post _ _ _ _ _ _ _ _ _ _ _ _ _ _ _ _ _ _ _ _ _ _ _ _ _ h1 h2 h3 (fun z => by omega) (fun _ _ => hp) (fun _ z => absurd c2 z) (fun _ z => absurd c2 z) (fun _ z => absurd c2 z)
      · rintro post ⟨f_active, f_epoch, a_nodeUp, a_journalUp, a_masterUp, a_touch, a_log, a_many, a_promise, a_base, a_stamp, a_units, a_unit, a_sort, a_placeOf, a_client, a_rowLength, a_row, a_closedWith, a_stampOf⟩ h1 h2 h3 hp
        exact YY post _ _ _ _ _ _ _ _ _ _ _ _ _ _ _ _ _ _ _ _ h1 h2 h3 (fun z => by omega) (fun _ _ => hp) (fun _ z => absurd c2 z) (fun _ z => absurd c2 z) (fun _ z => absurd c2 z)
    · by_cases c3 : b' < 16 ∧ lj_rm L (bo_c h + 1)
      · refine oc_c (tail c1 c2 c3.1 c3.2) ?_ ?_
        · rintro post ⟨f_active, f_epoch, a_dataNodeDown, a_journalDown, a_masterDown, a_inTouch, a_promise, a_base, a_logLength, a_logEpoch, a_logKind, a_logA, a_logB, a_logC, a_inodeState, a_inodePlace, a_inodeClient, a_closeUnits, a_rowLength, a_rowBlock, a_blockStamp, a_replicaHeld, a_replicaStamp, a_unitCount, a_unitValue⟩ h1 h2 h3 hp
          exact XX post _ _ _ _ _ _ _ _ _ _ _ _ _ _ _ _ _ _ _ _ _ _ _ _ _ h1 h2 h3 (fun z => by omega) (fun _ z => absurd z c2) (fun _ _ z => absurd c3.2 z) (fun _ _ _ z => absurd c3.1 (by omega)) (fun _ _ _ _ => hp)
        · rintro post ⟨f_active, f_epoch, a_nodeUp, a_journalUp, a_masterUp, a_touch, a_log, a_many, a_promise, a_base, a_stamp, a_units, a_unit, a_sort, a_placeOf, a_client, a_rowLength, a_row, a_closedWith, a_stampOf⟩ h1 h2 h3 hp
          exact YY post _ _ _ _ _ _ _ _ _ _ _ _ _ _ _ _ _ _ _ _ h1 h2 h3 (fun z => by omega) (fun _ z => absurd z c2) (fun _ _ z => absurd c3.1 (by omega)) (fun _ _ _ z => absurd c3.2 z) (fun _ _ _ _ => hp)
      · refine oc_n (-4) hI hiv hD ?_ ?_
        · rintro post ⟨f_active, f_epoch, a_dataNodeDown, a_journalDown, a_masterDown, a_inTouch, a_promise, a_base, a_logLength, a_logEpoch, a_logKind, a_logA, a_logB, a_logC, a_inodeState, a_inodePlace, a_inodeClient, a_closeUnits, a_rowLength, a_rowBlock, a_blockStamp, a_replicaHeld, a_replicaStamp, a_unitCount, a_unitValue⟩ h1 h2 h3 hp
          exact XX post _ _ _ _ _ _ _ _ _ _ _ _ _ _ _ _ _ _ _ _ _ _ _ _ _ h1 h2 h3 (fun z => by omega) (fun _ z => absurd z c2) (fun _ _ _ => hp) (fun _ _ _ _ => hp) (fun _ _ z1 z2 => absurd ⟨z2, z1⟩ c3)
        · rintro post ⟨f_active, f_epoch, a_nodeUp, a_journalUp, a_masterUp, a_touch, a_log, a_many, a_promise, a_base, a_stamp, a_units, a_unit, a_sort, a_placeOf, a_client, a_rowLength, a_row, a_closedWith, a_stampOf⟩ h1 h2 h3 hp
          exact YY post _ _ _ _ _ _ _ _ _ _ _ _ _ _ _ _ _ _ _ _ h1 h2 h3 (fun z => by omega) (fun _ z => absurd z c2) (fun _ _ _ => hp) (fun _ _ _ _ => hp) (fun _ _ z1 z2 => absurd ⟨z2, z1⟩ c3)
  · refine oc_n (-2) hI hiv hD ?_ ?_
    · rintro post ⟨f_active, f_epoch, a_dataNodeDown, a_journalDown, a_masterDown, a_inTouch, a_promise, a_base, a_logLength, a_logEpoch, a_logKind, a_logA, a_logB, a_logC, a_inodeState, a_inodePlace, a_inodeClient, a_closeUnits, a_rowLength, a_rowBlock, a_blockStamp, a_replicaHeld, a_replicaStamp, a_unitCount, a_unitValue⟩ h1 h2 h3 hp
      exact XX post _ _ _ _ _ _ _ _ _ _ _ _ _ _ _ _ _ _ _ _ _ _ _ _ _ h1 h2 h3 (fun _ => hp) (fun z => absurd z c1) (fun z => absurd z c1) (fun z => absurd z c1) (fun z => absurd z c1)
    · rintro post ⟨f_active, f_epoch, a_nodeUp, a_journalUp, a_masterUp, a_touch, a_log, a_many, a_promise, a_base, a_stamp, a_units, a_unit, a_sort, a_placeOf, a_client, a_rowLength, a_row, a_closedWith, a_stampOf⟩ h1 h2 h3 hp
      exact YY post _ _ _ _ _ _ _ _ _ _ _ _ _ _ _ _ _ _ _ _ h1 h2 h3 (fun _ => hp) (fun z => absurd z c1) (fun z => absurd z c1) (fun z => absurd z c1) (fun z => absurd z c1)
/-- no new block is wanted -/
theorem ap_100u {l : Nat} {x4 : Int32} {h : Bool} (hI : qt_iv T) (hiv : lj_iv k L T) (hD : rd_iv L (nu, st, un, ua)) (hl : l < 8)
    (tail : lj_rm L (bo_c h) → oc k T L (nu, st, un, ua) (fun post u => match u with | (f_active, f_epoch, a_dataNodeDown, a_journalDown, a_masterDown, a_inTouch, a_promise, a_base, a_logLength, a_logEpoch, a_logKind, a_logA, a_logB, a_logC, a_inodeState, a_inodePlace, a_inodeClient, a_closeUnits, a_rowLength, a_rowBlock, a_blockStamp, a_replicaHeld, a_replicaStamp, a_unitCount, a_unitValue) => wX_append_177 post (nI n) x x4 (bo_p h) 0 f_active f_epoch a_dataNodeDown a_journalDown a_masterDown a_inTouch a_promise a_base a_logLength a_logEpoch a_logKind a_logA a_logB a_logC a_inodeState a_inodePlace a_inodeClient a_closeUnits a_rowLength a_rowBlock a_blockStamp a_replicaHeld a_replicaStamp a_unitCount a_unitValue) (fun post v => match v with | (f_active, f_epoch, a_nodeUp, a_journalUp, a_masterUp, a_touch, a_log, a_many, a_promise, a_base, a_stamp, a_units, a_unit, a_sort, a_placeOf, a_client, a_rowLength, a_row, a_closedWith, a_stampOf) => wY_append_247 post (nI n) x x4 (bo_p h) (nI l) (-1) f_active f_epoch a_nodeUp a_journalUp a_masterUp a_touch a_log a_many a_promise a_base a_stamp a_units a_unit a_sort a_placeOf a_client a_rowLength a_row a_closedWith a_stampOf)) :
    oc k T L (nu, st, un, ua) (fun post u => match u with | (f_active, f_epoch, a_dataNodeDown, a_journalDown, a_masterDown, a_inTouch, a_promise, a_base, a_logLength, a_logEpoch, a_logKind, a_logA, a_logB, a_logC, a_inodeState, a_inodePlace, a_inodeClient, a_closeUnits, a_rowLength, a_rowBlock, a_blockStamp, a_replicaHeld, a_replicaStamp, a_unitCount, a_unitValue) => wX_append_100 post (nI n) x x4 (bo_p h) 0 f_active f_epoch a_dataNodeDown a_journalDown a_masterDown a_inTouch a_promise a_base a_logLength a_logEpoch a_logKind a_logA a_logB a_logC a_inodeState a_inodePlace a_inodeClient a_closeUnits a_rowLength a_rowBlock a_blockStamp a_replicaHeld a_replicaStamp a_unitCount a_unitValue) (fun post v => match v with | (f_active, f_epoch, a_nodeUp, a_journalUp, a_masterUp, a_touch, a_log, a_many, a_promise, a_base, a_stamp, a_units, a_unit, a_sort, a_placeOf, a_client, a_rowLength, a_row, a_closedWith, a_stampOf) => wY_append_159 post (nI n) x x4 (bo_p h) (nI l) f_active f_epoch a_nodeUp a_journalUp a_masterUp a_touch a_log a_many a_promise a_base a_stamp a_units a_unit a_sort a_placeOf a_client a_rowLength a_row a_closedWith a_stampOf) := by
  have hl8 : ¬ nI l = 8 := fun z => by have := (nI_eq (b := 8) (by omega) (by decide)).mp z; omega
  cases h with
  | false =>
    refine oc_c (tail (lj_rm0 hiv)) ?_ ?_
    · rintro post ⟨f_active, f_epoch, a_dataNodeDown, a_journalDown, a_masterDown, a_inTouch, a_promise, a_base, a_logLength, a_logEpoch, a_logKind, a_logA, a_logB, a_logC, a_inodeState, a_inodePlace, a_inodeClient, a_closeUnits, a_rowLength, a_rowBlock, a_blockStamp, a_replicaHeld, a_replicaStamp, a_unitCount, a_unitValue⟩ h1 h2 h3 hp
      exact br_t rfl (br_t rfl (br_t rfl (nm_r (by decide : (0 : Int32) + 0 = nI 0) (xm_lackG (R := 0) h2 hiv (by decide) (fun z => absurd (lj_rm0 hiv) z) (fun _ => br_t rfl (br_t rfl hp))))))
    · rintro post ⟨f_active, f_epoch, a_nodeUp, a_journalUp, a_masterUp, a_touch, a_log, a_many, a_promise, a_base, a_stamp, a_units, a_unit, a_sort, a_placeOf, a_client, a_rowLength, a_row, a_closedWith, a_stampOf⟩ h1 h2 h3 hp
      exact br_f hl8 (br_t rfl (br_f hl8 (nm_r (by decide : (0 : Int32) + 0 = 0) (br_t (by decide) hp))))
  | true =>
    by_cases hrm : lj_rm L 1
    · refine oc_c (tail hrm) ?_ ?_
      · rintro post ⟨f_active, f_epoch, a_dataNodeDown, a_journalDown, a_masterDown, a_inTouch, a_promise, a_base, a_logLength, a_logEpoch, a_logKind, a_logA, a_logB, a_logC, a_inodeState, a_inodePlace, a_inodeClient, a_closeUnits, a_rowLength, a_rowBlock, a_blockStamp, a_replicaHeld, a_replicaStamp, a_unitCount, a_unitValue⟩ h1 h2 h3 hp
        exact br_t rfl (br_f bo_1 (br_t rfl (nm_r (by decide : (1 : Int32) + 0 = nI 1) (xm_lackG (R := 1) h2 hiv (by decide) (fun z => absurd hrm z) (fun _ => br_t rfl (br_t rfl hp))))))
      · rintro post ⟨f_active, f_epoch, a_nodeUp, a_journalUp, a_masterUp, a_touch, a_log, a_many, a_promise, a_base, a_stamp, a_units, a_unit, a_sort, a_placeOf, a_client, a_rowLength, a_row, a_closedWith, a_stampOf⟩ h1 h2 h3 hp
        exact br_f hl8 (br_f bo_1 (br_f hl8 (nm_r (by decide : (1 : Int32) + 0 = nI 1) (br_f (by decide) (ym_manyG (R := 1) h2 hiv (by decide) (fun z => absurd hrm z) (fun _ => br_t rfl hp))))))
    · refine oc_n (-4) hI hiv hD ?_ ?_
      · rintro post ⟨f_active, f_epoch, a_dataNodeDown, a_journalDown, a_masterDown, a_inTouch, a_promise, a_base, a_logLength, a_logEpoch, a_logKind, a_logA, a_logB, a_logC, a_inodeState, a_inodePlace, a_inodeClient, a_closeUnits, a_rowLength, a_rowBlock, a_blockStamp, a_replicaHeld, a_replicaStamp, a_unitCount, a_unitValue⟩ h1 h2 h3 hp
        exact br_t rfl (br_f bo_1 (br_t rfl (nm_r (by decide : (1 : Int32) + 0 = nI 1) (xm_lackG (R := 1) h2 hiv (by decide) (fun _ => br_f bo_1 hp) (fun z => absurd z hrm)))))
      · rintro post ⟨f_active, f_epoch, a_nodeUp, a_journalUp, a_masterUp, a_touch, a_log, a_many, a_promise, a_base, a_stamp, a_units, a_unit, a_sort, a_placeOf, a_client, a_rowLength, a_row, a_closedWith, a_stampOf⟩ h1 h2 h3 hp
        exact br_f hl8 (br_f bo_1 (br_f hl8 (nm_r (by decide : (1 : Int32) + 0 = nI 1) (br_f (by decide) (ym_manyG (R := 1) h2 hiv (by decide) (fun _ => br_f bo_1 hp) (fun z => absurd z hrm))))))
end
end
section
/-! append: closed -/
section
variable {k : Nat} {T : qt_T} {L : lj_L} {nu : Nat → Bool} {st un : Nat → Nat} {ua : Nat → Int32} {n : Nat} {x : Int32}
theorem ap_top (hk : k ≤ 2048) (hI : qt_iv T) (hiv : lj_iv k L T) (hD : rd_iv L (nu, st, un, ua)) (hb : rd_bd (nu, st, un, ua)) (hac : 0 < lj_ac L) (he : lj_ep L ≤ 512) (hn : n < 12) (hs : qt_so T n = 2) :
    oc k T L (nu, st, un, ua) (fun post u => match u with | (f_active, f_epoch, a_dataNodeDown, a_journalDown, a_masterDown, a_inTouch, a_promise, a_base, a_logLength, a_logEpoch, a_logKind, a_logA, a_logB, a_logC, a_inodeState, a_inodePlace, a_inodeClient, a_closeUnits, a_rowLength, a_rowBlock, a_blockStamp, a_replicaHeld, a_replicaStamp, a_unitCount, a_unitValue) => wpX_lastBlock (fun r_31 => ((r_31 = (-1) → (wX_append_56 post (nI n) x r_31 f_active f_epoch a_dataNodeDown a_journalDown a_masterDown a_inTouch a_promise a_base a_logLength a_logEpoch a_logKind a_logA a_logB a_logC a_inodeState a_inodePlace a_inodeClient a_closeUnits a_rowLength a_rowBlock a_blockStamp a_replicaHeld a_replicaStamp a_unitCount a_unitValue)) ∧ (¬ r_31 = (-1) → (wpX_canTakeUnit (fun r_284 => ((r_284 = 0 → (post (-2) (f_active, f_epoch, a_dataNodeDown, a_journalDown, a_masterDown, a_inTouch, a_promise, a_base, a_logLength, a_logEpoch, a_logKind, a_logA, a_logB, a_logC, a_inodeState, a_inodePlace, a_inodeClient, a_closeUnits, a_rowLength, a_rowBlock, a_blockStamp, a_replicaHeld, a_replicaStamp, a_unitCount, a_unitValue))) ∧ (¬ r_284 = 0 → (wX_append_56 post (nI n) x r_31 f_active f_epoch a_dataNodeDown a_journalDown a_masterDown a_inTouch a_promise a_base a_logLength a_logEpoch a_logKind a_logA a_logB a_logC a_inodeState a_inodePlace a_inodeClient a_closeUnits a_rowLength a_rowBlock a_blockStamp a_replicaHeld a_replicaStamp a_unitCount a_unitValue)))) (f_active, f_epoch, a_dataNodeDown, a_journalDown, a_masterDown, a_inTouch, a_promise, a_base, a_logLength, a_logEpoch, a_logKind, a_logA, a_logB, a_logC, a_inodeState, a_inodePlace, a_inodeClient, a_closeUnits, a_rowLength, a_rowBlock, a_blockStamp, a_replicaHeld, a_replicaStamp, a_unitCount, a_unitValue) r_31)))) (f_active, f_epoch, a_dataNodeDown, a_journalDown, a_masterDown, a_inTouch, a_promise, a_base, a_logLength, a_logEpoch, a_logKind, a_logA, a_logB, a_logC, a_inodeState, a_inodePlace, a_inodeClient, a_closeUnits, a_rowLength, a_rowBlock, a_blockStamp, a_replicaHeld, a_replicaStamp, a_unitCount, a_unitValue) (nI n))
      (fun post v => match v with | (f_active, f_epoch, a_nodeUp, a_journalUp, a_masterUp, a_touch, a_log, a_many, a_promise, a_base, a_stamp, a_units, a_unit, a_sort, a_placeOf, a_client, a_rowLength, a_row, a_closedWith, a_stampOf) => wpY_last (fun r_49 => ((0 ≤ r_49 → (wpY_first (fun r_71 => (wY_append_66 post (nI n) x r_49 r_71 f_active f_epoch a_nodeUp a_journalUp a_masterUp a_touch a_log a_many a_promise a_base a_stamp a_units a_unit a_sort a_placeOf a_client a_rowLength a_row a_closedWith a_stampOf)) (f_active, f_epoch, a_nodeUp, a_journalUp, a_masterUp, a_touch, a_log, a_many, a_promise, a_base, a_stamp, a_units, a_unit, a_sort, a_placeOf, a_client, a_rowLength, a_row, a_closedWith, a_stampOf) r_49)) ∧ (¬ 0 ≤ r_49 → (wY_append_66 post (nI n) x r_49 (-1) f_active f_epoch a_nodeUp a_journalUp a_masterUp a_touch a_log a_many a_promise a_base a_stamp a_units a_unit a_sort a_placeOf a_client a_rowLength a_row a_closedWith a_stampOf)))) (f_active, f_epoch, a_nodeUp, a_journalUp, a_masterUp, a_touch, a_log, a_many, a_promise, a_base, a_stamp, a_units, a_unit, a_sort, a_placeOf, a_client, a_rowLength, a_row, a_closedWith, a_stampOf) (nI n)) := by
  obtain ⟨b', hfree⟩ := ls_ex (fun b => ¬ qt_in (qt_rl T) (qt_ro T) b) 16
  by_cases hr : qt_rl T n = 0
  · refine oc_c (ap_100e (x := x) (n := n) (x4 := -1) (h := false) hI hiv hD hb hn hfree (fun c1 c2 c3 c4 => oc_c (ap_ext (x := x) (x4 := -1) hI hiv hD hb hac he c4 hn hs c1 hfree c3 c2) ?_ ?_)) ?_ ?_
    · rintro post ⟨f_active, f_epoch, a_dataNodeDown, a_journalDown, a_masterDown, a_inTouch, a_promise, a_base, a_logLength, a_logEpoch, a_logKind, a_logA, a_logB, a_logC, a_inodeState, a_inodePlace, a_inodeClient, a_closeUnits, a_rowLength, a_rowBlock, a_blockStamp, a_replicaHeld, a_replicaStamp, a_unitCount, a_unitValue⟩ h1 h2 h3 hp
      exact br_t rfl hp
    · rintro post ⟨f_active, f_epoch, a_nodeUp, a_journalUp, a_masterUp, a_touch, a_log, a_many, a_promise, a_base, a_stamp, a_units, a_unit, a_sort, a_placeOf, a_client, a_rowLength, a_row, a_closedWith, a_stampOf⟩ h1 h2 h3 hp
      exact br_t rfl hp
    · rintro post ⟨f_active, f_epoch, a_dataNodeDown, a_journalDown, a_masterDown, a_inTouch, a_promise, a_base, a_logLength, a_logEpoch, a_logKind, a_logA, a_logB, a_logC, a_inodeState, a_inodePlace, a_inodeClient, a_closeUnits, a_rowLength, a_rowBlock, a_blockStamp, a_replicaHeld, a_replicaStamp, a_unitCount, a_unitValue⟩ h1 h2 h3 hp
      exact xm_lastBlock (u := (f_active, f_epoch, a_dataNodeDown, a_journalDown, a_masterDown, a_inTouch, a_promise, a_base, a_logLength, a_logEpoch, a_logKind, a_logA, a_logB, a_logC, a_inodeState, a_inodePlace, a_inodeClient, a_closeUnits, a_rowLength, a_rowBlock, a_blockStamp, a_replicaHeld, a_replicaStamp, a_unitCount, a_unitValue)) h1 hI hn (fun _ => br_t rfl (br_t rfl (br_t rfl hp))) (fun z => by omega)
    · rintro post ⟨f_active, f_epoch, a_nodeUp, a_journalUp, a_masterUp, a_touch, a_log, a_many, a_promise, a_base, a_stamp, a_units, a_unit, a_sort, a_placeOf, a_client, a_rowLength, a_row, a_closedWith, a_stampOf⟩ h1 h2 h3 hp
      exact ym_last (v := (f_active, f_epoch, a_nodeUp, a_journalUp, a_masterUp, a_touch, a_log, a_many, a_promise, a_base, a_stamp, a_units, a_unit, a_sort, a_placeOf, a_client, a_rowLength, a_row, a_closedWith, a_stampOf)) h1 hI hn (fun _ => br_f ix_n1 (br_t (by decide) (br_t (by decide) (br_f ix_n1 (br_t (by decide) hp))))) (fun z => by omega)
  · have hr0 : 0 < qt_rl T n := by omega
    have hb16 := qt_iv5 hI n (qt_rl T n - 1) hn (by omega)
    have hin : qt_in (qt_rl T) (qt_ro T) (qt_ro T (3 * n + (qt_rl T n - 1))) := ⟨n, qt_rl T n - 1, hn, by omega, rfl⟩
    generalize hbb : qt_ro T (3 * n + (qt_rl T n - 1)) = b at hb16 hin
    have hw := rd_fwB (f := rd_g nu st b (qt_sp T b)) hb16 hb.2 (n := 5) (by omega)
    obtain ⟨m, hm⟩ := ls_ex (fun d => rd_g nu st b (qt_sp T b) d = true) 5
    have XL : ∀ (post : Int32 → SX → Prop) f_active f_epoch a_dataNodeDown a_journalDown a_masterDown a_inTouch a_promise a_base a_logLength a_logEpoch a_logKind a_logA a_logB a_logC a_inodeState a_inodePlace a_inodeClient a_closeUnits a_rowLength a_rowBlock a_blockStamp a_replicaHeld a_replicaStamp a_unitCount a_unitValue, sx_T T (f_active, f_epoch, a_dataNodeDown, a_journalDown, a_masterDown, a_inTouch, a_promise, a_base, a_logLength, a_logEpoch, a_logKind, a_logA, a_logB, a_logC, a_inodeState, a_inodePlace, a_inodeClient, a_closeUnits, a_rowLength, a_rowBlock, a_blockStamp, a_replicaHeld, a_replicaStamp, a_unitCount, a_unitValue) → sx_D (nu, st, un, ua) (f_active, f_epoch, a_dataNodeDown, a_journalDown, a_masterDown, a_inTouch, a_promise, a_base, a_logLength, a_logEpoch, a_logKind, a_logA, a_logB, a_logC, a_inodeState, a_inodePlace, a_inodeClient, a_closeUnits, a_rowLength, a_rowBlock, a_blockStamp, a_replicaHeld, a_replicaStamp, a_unitCount, a_unitValue) → (rd_ct T nu st un b m → wX_append_56 post (nI n) x (nI b) f_active f_epoch a_dataNodeDown a_journalDown a_masterDown a_inTouch a_promise a_base a_logLength a_logEpoch a_logKind a_logA a_logB a_logC a_inodeState a_inodePlace a_inodeClient a_closeUnits a_rowLength a_rowBlock a_blockStamp a_replicaHeld a_replicaStamp a_unitCount a_unitValue) → (¬ rd_ct T nu st un b m → post (-2) (f_active, f_epoch, a_dataNodeDown, a_journalDown, a_masterDown, a_inTouch, a_promise, a_base, a_logLength, a_logEpoch, a_logKind, a_logA, a_logB, a_logC, a_inodeState, a_inodePlace, a_inodeClient, a_closeUnits, a_rowLength, a_rowBlock, a_blockStamp, a_replicaHeld, a_replicaStamp, a_unitCount, a_unitValue)) → wpX_lastBlock (fun r_31 => ((r_31 = (-1) → (wX_append_56 post (nI n) x r_31 f_active f_epoch a_dataNodeDown a_journalDown a_masterDown a_inTouch a_promise a_base a_logLength a_logEpoch a_logKind a_logA a_logB a_logC a_inodeState a_inodePlace a_inodeClient a_closeUnits a_rowLength a_rowBlock a_blockStamp a_replicaHeld a_replicaStamp a_unitCount a_unitValue)) ∧ (¬ r_31 = (-1) → (wpX_canTakeUnit (fun r_284 => ((r_284 = 0 → (post (-2) (f_active, f_epoch, a_dataNodeDown, a_journalDown, a_masterDown, a_inTouch, a_promise, a_base, a_logLength, a_logEpoch, a_logKind, a_logA, a_logB, a_logC, a_inodeState, a_inodePlace, a_inodeClient, a_closeUnits, a_rowLength, a_rowBlock, a_blockStamp, a_replicaHeld, a_replicaStamp, a_unitCount, a_unitValue))) ∧ (¬ r_284 = 0 → (wX_append_56 post (nI n) x r_31 f_active f_epoch a_dataNodeDown a_journalDown a_masterDown a_inTouch a_promise a_base a_logLength a_logEpoch a_logKind a_logA a_logB a_logC a_inodeState a_inodePlace a_inodeClient a_closeUnits a_rowLength a_rowBlock a_blockStamp a_replicaHeld a_replicaStamp a_unitCount a_unitValue)))) (f_active, f_epoch, a_dataNodeDown, a_journalDown, a_masterDown, a_inTouch, a_promise, a_base, a_logLength, a_logEpoch, a_logKind, a_logA, a_logB, a_logC, a_inodeState, a_inodePlace, a_inodeClient, a_closeUnits, a_rowLength, a_rowBlock, a_blockStamp, a_replicaHeld, a_replicaStamp, a_unitCount, a_unitValue) r_31)))) (f_active, f_epoch, a_dataNodeDown, a_journalDown, a_masterDown, a_inTouch, a_promise, a_base, a_logLength, a_logEpoch, a_logKind, a_logA, a_logB, a_logC, a_inodeState, a_inodePlace, a_inodeClient, a_closeUnits, a_rowLength, a_rowBlock, a_blockStamp, a_replicaHeld, a_replicaStamp, a_unitCount, a_unitValue) (nI n) := by
      intro post f_active f_epoch a_dataNodeDown a_journalDown a_masterDown a_inTouch a_promise a_base a_logLength a_logEpoch a_logKind a_logA a_logB a_logC a_inodeState a_inodePlace a_inodeClient a_closeUnits a_rowLength a_rowBlock a_blockStamp a_replicaHeld a_replicaStamp a_unitCount a_unitValue h1 h3 a1 a0
      refine xm_lastBlock (u := (f_active, f_epoch, a_dataNodeDown, a_journalDown, a_masterDown, a_inTouch, a_promise, a_base, a_logLength, a_logEpoch, a_logKind, a_logA, a_logB, a_logC, a_inodeState, a_inodePlace, a_inodeClient, a_closeUnits, a_rowLength, a_rowBlock, a_blockStamp, a_replicaHeld, a_replicaStamp, a_unitCount, a_unitValue)) h1 hI hn (fun z => absurd z hr) (fun _ => ?_)
      rw [hbb]
      exact br_f (ix_m1 (by omega)) (xm_canTakeUnit (u := (f_active, f_epoch, a_dataNodeDown, a_journalDown, a_masterDown, a_inTouch, a_promise, a_base, a_logLength, a_logEpoch, a_logKind, a_logA, a_logB, a_logC, a_inodeState, a_inodePlace, a_inodeClient, a_closeUnits, a_rowLength, a_rowBlock, a_blockStamp, a_replicaHeld, a_replicaStamp, a_unitCount, a_unitValue)) h1 hI h3 hb hb16 hm (fun z => br_f bo_1 (a1 z)) (fun z => br_t rfl (a0 z)))
    have YL : ∀ (post : Int32 → SY → Prop) f_active f_epoch a_nodeUp a_journalUp a_masterUp a_touch a_log a_many a_promise a_base a_stamp a_units a_unit a_sort a_placeOf a_client a_rowLength a_row a_closedWith a_stampOf, sy_T T (f_active, f_epoch, a_nodeUp, a_journalUp, a_masterUp, a_touch, a_log, a_many, a_promise, a_base, a_stamp, a_units, a_unit, a_sort, a_placeOf, a_client, a_rowLength, a_row, a_closedWith, a_stampOf) → sy_D (nu, st, un, ua) (f_active, f_epoch, a_nodeUp, a_journalUp, a_masterUp, a_touch, a_log, a_many, a_promise, a_base, a_stamp, a_units, a_unit, a_sort, a_placeOf, a_client, a_rowLength, a_row, a_closedWith, a_stampOf) → wY_append_66 post (nI n) x (nI b) (ls_v 5 m) f_active f_epoch a_nodeUp a_journalUp a_masterUp a_touch a_log a_many a_promise a_base a_stamp a_units a_unit a_sort a_placeOf a_client a_rowLength a_row a_closedWith a_stampOf → wpY_last (fun r_49 => ((0 ≤ r_49 → (wpY_first (fun r_71 => (wY_append_66 post (nI n) x r_49 r_71 f_active f_epoch a_nodeUp a_journalUp a_masterUp a_touch a_log a_many a_promise a_base a_stamp a_units a_unit a_sort a_placeOf a_client a_rowLength a_row a_closedWith a_stampOf)) (f_active, f_epoch, a_nodeUp, a_journalUp, a_masterUp, a_touch, a_log, a_many, a_promise, a_base, a_stamp, a_units, a_unit, a_sort, a_placeOf, a_client, a_rowLength, a_row, a_closedWith, a_stampOf) r_49)) ∧ (¬ 0 ≤ r_49 → (wY_append_66 post (nI n) x r_49 (-1) f_active f_epoch a_nodeUp a_journalUp a_masterUp a_touch a_log a_many a_promise a_base a_stamp a_units a_unit a_sort a_placeOf a_client a_rowLength a_row a_closedWith a_stampOf)))) (f_active, f_epoch, a_nodeUp, a_journalUp, a_masterUp, a_touch, a_log, a_many, a_promise, a_base, a_stamp, a_units, a_unit, a_sort, a_placeOf, a_client, a_rowLength, a_row, a_closedWith, a_stampOf) (nI n) := by
      intro post f_active f_epoch a_nodeUp a_journalUp a_masterUp a_touch a_log a_many a_promise a_base a_stamp a_units a_unit a_sort a_placeOf a_client a_rowLength a_row a_closedWith a_stampOf h1 h3 a1
      refine ym_last (v := (f_active, f_epoch, a_nodeUp, a_journalUp, a_masterUp, a_touch, a_log, a_many, a_promise, a_base, a_stamp, a_units, a_unit, a_sort, a_placeOf, a_client, a_rowLength, a_row, a_closedWith, a_stampOf)) h1 hI hn (fun z => absurd z hr) (fun _ => ?_)
      rw [hbb]
      exact br_t (ix_0 (by omega)) (ym_first (v := (f_active, f_epoch, a_nodeUp, a_journalUp, a_masterUp, a_touch, a_log, a_many, a_promise, a_base, a_stamp, a_units, a_unit, a_sort, a_placeOf, a_client, a_rowLength, a_row, a_closedWith, a_stampOf)) h1 hI h3 hb hb16 hin hm a1)
    by_cases hm5 : m < 5
    · obtain ⟨l, hl⟩ : ∃ l, rd_fw (rd_g nu st b (qt_sp T b)) un b 5 = l + 1 := by
        have := (rd_fwL (un := un) (b := b) hm5 (hm.2.2 hm5)).1
        exact ⟨rd_fw (rd_g nu st b (qt_sp T b)) un b 5 - 1, by omega⟩
      have hc : 16 * m + b < 80 := by omega
      have hum := hb.2 _ hc
      obtain ⟨h, hh⟩ : ∃ h : Bool, h = true ↔ rd_hg nu st b (qt_sp T b) := by
        obtain ⟨f, hf⟩ := bo_ex (fun _ => rd_hg nu st b (qt_sp T b))
        exact ⟨f 0, hf 0⟩
      have X56 : ∀ (post : Int32 → SX → Prop) f_active f_epoch a_dataNodeDown a_journalDown a_masterDown a_inTouch a_promise a_base a_logLength a_logEpoch a_logKind a_logA a_logB a_logC a_inodeState a_inodePlace a_inodeClient a_closeUnits a_rowLength a_rowBlock a_blockStamp a_replicaHeld a_replicaStamp a_unitCount a_unitValue, sx_T T (f_active, f_epoch, a_dataNodeDown, a_journalDown, a_masterDown, a_inTouch, a_promise, a_base, a_logLength, a_logEpoch, a_logKind, a_logA, a_logB, a_logC, a_inodeState, a_inodePlace, a_inodeClient, a_closeUnits, a_rowLength, a_rowBlock, a_blockStamp, a_replicaHeld, a_replicaStamp, a_unitCount, a_unitValue) → sx_D (nu, st, un, ua) (f_active, f_epoch, a_dataNodeDown, a_journalDown, a_masterDown, a_inTouch, a_promise, a_base, a_logLength, a_logEpoch, a_logKind, a_logA, a_logB, a_logC, a_inodeState, a_inodePlace, a_inodeClient, a_closeUnits, a_rowLength, a_rowBlock, a_blockStamp, a_replicaHeld, a_replicaStamp, a_unitCount, a_unitValue) → (l = 8 → wX_append_100 post (nI n) x (nI b) (bo_p h) 1 f_active f_epoch a_dataNodeDown a_journalDown a_masterDown a_inTouch a_promise a_base a_logLength a_logEpoch a_logKind a_logA a_logB a_logC a_inodeState a_inodePlace a_inodeClient a_closeUnits a_rowLength a_rowBlock a_blockStamp a_replicaHeld a_replicaStamp a_unitCount a_unitValue) → (l ≠ 8 → wX_append_100 post (nI n) x (nI b) (bo_p h) 0 f_active f_epoch a_dataNodeDown a_journalDown a_masterDown a_inTouch a_promise a_base a_logLength a_logEpoch a_logKind a_logA a_logB a_logC a_inodeState a_inodePlace a_inodeClient a_closeUnits a_rowLength a_rowBlock a_blockStamp a_replicaHeld a_replicaStamp a_unitCount a_unitValue) → wX_append_56 post (nI n) x (nI b) f_active f_epoch a_dataNodeDown a_journalDown a_masterDown a_inTouch a_promise a_base a_logLength a_logEpoch a_logKind a_logA a_logB a_logC a_inodeState a_inodePlace a_inodeClient a_closeUnits a_rowLength a_rowBlock a_blockStamp a_replicaHeld a_replicaStamp a_unitCount a_unitValue := by
        intro post f_active f_epoch a_dataNodeDown a_journalDown a_masterDown a_inTouch a_promise a_base a_logLength a_logEpoch a_logKind a_logA a_logB a_logC a_inodeState a_inodePlace a_inodeClient a_closeUnits a_rowLength a_rowBlock a_blockStamp a_replicaHeld a_replicaStamp a_unitCount a_unitValue h1 h3 a1 a0
        have s76 : wX_append_76 post (nI n) x (nI b) (bo_p h) f_active f_epoch a_dataNodeDown a_journalDown a_masterDown a_inTouch a_promise a_base a_logLength a_logEpoch a_logKind a_logA a_logB a_logC a_inodeState a_inodePlace a_inodeClient a_closeUnits a_rowLength a_rowBlock a_blockStamp a_replicaHeld a_replicaStamp a_unitCount a_unitValue := by
          refine br_f (ix_m1 (by omega)) (xm_fewestUnits (u := (f_active, f_epoch, a_dataNodeDown, a_journalDown, a_masterDown, a_inTouch, a_promise, a_base, a_logLength, a_logEpoch, a_logKind, a_logA, a_logB, a_logC, a_inodeState, a_inodePlace, a_inodeClient, a_closeUnits, a_rowLength, a_rowBlock, a_blockStamp, a_replicaHeld, a_replicaStamp, a_unitCount, a_unitValue)) h1 hI h3 hb hb16 ?_)
          rw [hl, qt_ms]
          exact cd_if (nI_eq (b := 8) (by omega) (by decide)) a1 a0
        refine br_f (ix_m1 (by omega)) (xm_hangs (u := (f_active, f_epoch, a_dataNodeDown, a_journalDown, a_masterDown, a_inTouch, a_promise, a_base, a_logLength, a_logEpoch, a_logKind, a_logA, a_logB, a_logC, a_inodeState, a_inodePlace, a_inodeClient, a_closeUnits, a_rowLength, a_rowBlock, a_blockStamp, a_replicaHeld, a_replicaStamp, a_unitCount, a_unitValue)) h1 hI h3 hb hb16 (fun z => br_f bo_1 ?_) (fun z => br_t rfl ?_))
        · rw [hh.mpr z] at s76; exact s76
        · rw [show h = false by cases h; rfl; exact absurd (hh.mp rfl) z] at s76; exact s76
      have Y66 : ∀ (post : Int32 → SY → Prop) f_active f_epoch a_nodeUp a_journalUp a_masterUp a_touch a_log a_many a_promise a_base a_stamp a_units a_unit a_sort a_placeOf a_client a_rowLength a_row a_closedWith a_stampOf, sy_T T (f_active, f_epoch, a_nodeUp, a_journalUp, a_masterUp, a_touch, a_log, a_many, a_promise, a_base, a_stamp, a_units, a_unit, a_sort, a_placeOf, a_client, a_rowLength, a_row, a_closedWith, a_stampOf) → sy_D (nu, st, un, ua) (f_active, f_epoch, a_nodeUp, a_journalUp, a_masterUp, a_touch, a_log, a_many, a_promise, a_base, a_stamp, a_units, a_unit, a_sort, a_placeOf, a_client, a_rowLength, a_row, a_closedWith, a_stampOf) → (rd_ct T nu st un b m → wY_append_159 post (nI n) x (nI b) (bo_p h) (nI l) f_active f_epoch a_nodeUp a_journalUp a_masterUp a_touch a_log a_many a_promise a_base a_stamp a_units a_unit a_sort a_placeOf a_client a_rowLength a_row a_closedWith a_stampOf) → (¬ rd_ct T nu st un b m → post (-2) (f_active, f_epoch, a_nodeUp, a_journalUp, a_masterUp, a_touch, a_log, a_many, a_promise, a_base, a_stamp, a_units, a_unit, a_sort, a_placeOf, a_client, a_rowLength, a_row, a_closedWith, a_stampOf)) → wY_append_66 post (nI n) x (nI b) (ls_v 5 m) f_active f_epoch a_nodeUp a_journalUp a_masterUp a_touch a_log a_many a_promise a_base a_stamp a_units a_unit a_sort a_placeOf a_client a_rowLength a_row a_closedWith a_stampOf := by
        intro post f_active f_epoch a_nodeUp a_journalUp a_masterUp a_touch a_log a_many a_promise a_base a_stamp a_units a_unit a_sort a_placeOf a_client a_rowLength a_row a_closedWith a_stampOf h1 h3 a1 a0
        rw [ls_vS hm5]
        have eu : a_units (nI (16 * m + b)).toNatClampNeg = nI (un (16 * m + b)) := by rw [nI_clamp (by omega)]; exact h3.2.2.1 _ hc
        have s119 : wY_append_119 post (nI n) x (nI b) (nI m) (bo_p h) (nI l) f_active f_epoch a_nodeUp a_journalUp a_masterUp a_touch a_log a_many a_promise a_base a_stamp a_units a_unit a_sort a_placeOf a_client a_rowLength a_row a_closedWith a_stampOf := by
          refine br_f (nI_pos (by omega)) (cd_if bo_p0 (fun z => ?_) (fun z => a1 ⟨hm5, Or.inl (hh.mp (by simpa using z))⟩))
          rw [show 16 * nI m + nI b = nI (16 * m + b) from mu_l m 16 b, eu]
          refine ⟨vp_in_nI hc (by decide), cd_if (nI_eq (b := 8) (by omega) (by decide)) (fun y => cd_if (nI_leI (a := 8) (by decide) (by omega)) (fun w => a1 ⟨hm5, Or.inr (Or.inr (by omega))⟩) (fun w => a0 (fun q => ?_))) (fun y => a1 ⟨hm5, Or.inr (Or.inl (by omega))⟩)⟩
          rcases q.2 with q | q | q
          · rw [hh.mpr q] at z; exact absurd z (by decide)
          · omega
          · omega
        have s100 : wY_append_100 post (nI n) x (nI b) (nI m) (bo_p h) f_active f_epoch a_nodeUp a_journalUp a_masterUp a_touch a_log a_many a_promise a_base a_stamp a_units a_unit a_sort a_placeOf a_client a_rowLength a_row a_closedWith a_stampOf := by
          refine br_t (ix_0 (by omega)) (ym_bound0 (v := (f_active, f_epoch, a_nodeUp, a_journalUp, a_masterUp, a_touch, a_log, a_many, a_promise, a_base, a_stamp, a_units, a_unit, a_sort, a_placeOf, a_client, a_rowLength, a_row, a_closedWith, a_stampOf)) h1 hI h3 hb hb16 hin ?_)
          rw [hl, qt_ms]
          exact s119
        refine br_f (nI_pos (by omega)) (br_t (ix_0 (by omega)) (br_f (nI_pos (by omega)) (ym_hangs (v := (f_active, f_epoch, a_nodeUp, a_journalUp, a_masterUp, a_touch, a_log, a_many, a_promise, a_base, a_stamp, a_units, a_unit, a_sort, a_placeOf, a_client, a_rowLength, a_row, a_closedWith, a_stampOf)) h1 hI h3 hb hb16 hin (fun z => br_f bo_1 ?_) (fun z => br_t rfl ?_))))
        · rw [hh.mpr z] at s100; exact s100
        · rw [show h = false by cases h; rfl; exact absurd (hh.mp rfl) z] at s100; exact s100
      by_cases hct : rd_ct T nu st un b m
      · by_cases hl8 : l = 8
        · subst hl8
          refine oc_c (ap_100e (x := x) (n := n) (x4 := nI b) (h := h) hI hiv hD hb hn hfree (fun c1 c2 c3 c4 => ?_)) ?_ ?_
          · cases h with
            | false =>
              refine oc_c (ap_ext (x := x) (x4 := nI b) hI hiv hD hb hac he c4 hn hs c1 hfree c3 c2) ?_ ?_
              · rintro post ⟨f_active, f_epoch, a_dataNodeDown, a_journalDown, a_masterDown, a_inTouch, a_promise, a_base, a_logLength, a_logEpoch, a_logKind, a_logA, a_logB, a_logC, a_inodeState, a_inodePlace, a_inodeClient, a_closeUnits, a_rowLength, a_rowBlock, a_blockStamp, a_replicaHeld, a_replicaStamp, a_unitCount, a_unitValue⟩ h1 h2 h3 hp
                exact br_t rfl hp
              · rintro post ⟨f_active, f_epoch, a_nodeUp, a_journalUp, a_masterUp, a_touch, a_log, a_many, a_promise, a_base, a_stamp, a_units, a_unit, a_sort, a_placeOf, a_client, a_rowLength, a_row, a_closedWith, a_stampOf⟩ h1 h2 h3 hp
                exact br_t rfl hp
            | true => exact ap_renE hk hI hiv hD hb hac he c4 hn hs c1 hfree c3 c2 hb16 hin (by decide) hl
          · rintro post ⟨f_active, f_epoch, a_dataNodeDown, a_journalDown, a_masterDown, a_inTouch, a_promise, a_base, a_logLength, a_logEpoch, a_logKind, a_logA, a_logB, a_logC, a_inodeState, a_inodePlace, a_inodeClient, a_closeUnits, a_rowLength, a_rowBlock, a_blockStamp, a_replicaHeld, a_replicaStamp, a_unitCount, a_unitValue⟩ h1 h2 h3 hp
            exact XL post _ _ _ _ _ _ _ _ _ _ _ _ _ _ _ _ _ _ _ _ _ _ _ _ _ h1 h3 (fun _ => X56 post _ _ _ _ _ _ _ _ _ _ _ _ _ _ _ _ _ _ _ _ _ _ _ _ _ h1 h3 (fun _ => hp) (fun z => absurd rfl z)) (fun z => absurd hct z)
          · rintro post ⟨f_active, f_epoch, a_nodeUp, a_journalUp, a_masterUp, a_touch, a_log, a_many, a_promise, a_base, a_stamp, a_units, a_unit, a_sort, a_placeOf, a_client, a_rowLength, a_row, a_closedWith, a_stampOf⟩ h1 h2 h3 hp
            exact YL post _ _ _ _ _ _ _ _ _ _ _ _ _ _ _ _ _ _ _ _ h1 h3 (Y66 post _ _ _ _ _ _ _ _ _ _ _ _ _ _ _ _ _ _ _ _ h1 h3 (fun _ => hp) (fun z => absurd hct z))
        · refine oc_c (ap_100u (x := x) (n := n) (l := l) (x4 := nI b) (h := h) hI hiv hD (by omega) (fun c4 => ?_)) ?_ ?_
          · cases h with
            | false =>
              have hu8 : un (16 * m + b) < 8 := by
                rcases hct.2 with q | q | q
                · exact absurd (hh.mpr q) (by decide)
                · exact q
                · omega
              refine oc_c (ap_unit (x := x) hI hiv hD hb hn hr0 hbb hm hm5 hu8) ?_ ?_
              · rintro post ⟨f_active, f_epoch, a_dataNodeDown, a_journalDown, a_masterDown, a_inTouch, a_promise, a_base, a_logLength, a_logEpoch, a_logKind, a_logA, a_logB, a_logC, a_inodeState, a_inodePlace, a_inodeClient, a_closeUnits, a_rowLength, a_rowBlock, a_blockStamp, a_replicaHeld, a_replicaStamp, a_unitCount, a_unitValue⟩ h1 h2 h3 hp
                exact br_t rfl (br_t rfl hp)
              · rintro post ⟨f_active, f_epoch, a_nodeUp, a_journalUp, a_masterUp, a_touch, a_log, a_many, a_promise, a_base, a_stamp, a_units, a_unit, a_sort, a_placeOf, a_client, a_rowLength, a_row, a_closedWith, a_stampOf⟩ h1 h2 h3 hp
                exact br_t rfl (br_f (fun z => by have := (nI_eq (b := 8) (by omega) (by decide)).mp z; omega) hp)
            | true => exact ap_renU hk hI hiv hD hb hac he c4 hn hr0 hbb hm hm5 (by omega) hl
          · rintro post ⟨f_active, f_epoch, a_dataNodeDown, a_journalDown, a_masterDown, a_inTouch, a_promise, a_base, a_logLength, a_logEpoch, a_logKind, a_logA, a_logB, a_logC, a_inodeState, a_inodePlace, a_inodeClient, a_closeUnits, a_rowLength, a_rowBlock, a_blockStamp, a_replicaHeld, a_replicaStamp, a_unitCount, a_unitValue⟩ h1 h2 h3 hp
            exact XL post _ _ _ _ _ _ _ _ _ _ _ _ _ _ _ _ _ _ _ _ _ _ _ _ _ h1 h3 (fun _ => X56 post _ _ _ _ _ _ _ _ _ _ _ _ _ _ _ _ _ _ _ _ _ _ _ _ _ h1 h3 (fun z => absurd z hl8) (fun _ => hp)) (fun z => absurd hct z)
          · rintro post ⟨f_active, f_epoch, a_nodeUp, a_journalUp, a_masterUp, a_touch, a_log, a_many, a_promise, a_base, a_stamp, a_units, a_unit, a_sort, a_placeOf, a_client, a_rowLength, a_row, a_closedWith, a_stampOf⟩ h1 h2 h3 hp
            exact YL post _ _ _ _ _ _ _ _ _ _ _ _ _ _ _ _ _ _ _ _ h1 h3 (Y66 post _ _ _ _ _ _ _ _ _ _ _ _ _ _ _ _ _ _ _ _ h1 h3 (fun _ => hp) (fun z => absurd hct z))
      · refine oc_n (-2) hI hiv hD ?_ ?_
        · rintro post ⟨f_active, f_epoch, a_dataNodeDown, a_journalDown, a_masterDown, a_inTouch, a_promise, a_base, a_logLength, a_logEpoch, a_logKind, a_logA, a_logB, a_logC, a_inodeState, a_inodePlace, a_inodeClient, a_closeUnits, a_rowLength, a_rowBlock, a_blockStamp, a_replicaHeld, a_replicaStamp, a_unitCount, a_unitValue⟩ h1 h2 h3 hp
          exact XL post _ _ _ _ _ _ _ _ _ _ _ _ _ _ _ _ _ _ _ _ _ _ _ _ _ h1 h3 (fun z => absurd z hct) (fun _ => hp)
        · rintro post ⟨f_active, f_epoch, a_nodeUp, a_journalUp, a_masterUp, a_touch, a_log, a_many, a_promise, a_base, a_stamp, a_units, a_unit, a_sort, a_placeOf, a_client, a_rowLength, a_row, a_closedWith, a_stampOf⟩ h1 h2 h3 hp
          exact YL post _ _ _ _ _ _ _ _ _ _ _ _ _ _ _ _ _ _ _ _ h1 h3 (Y66 post _ _ _ _ _ _ _ _ _ _ _ _ _ _ _ _ _ _ _ _ h1 h3 (fun z => absurd z hct) (fun _ => hp))
    · have e5 : m = 5 := by have := hm.1; omega
      refine oc_n (-2) hI hiv hD ?_ ?_
      · rintro post ⟨f_active, f_epoch, a_dataNodeDown, a_journalDown, a_masterDown, a_inTouch, a_promise, a_base, a_logLength, a_logEpoch, a_logKind, a_logA, a_logB, a_logC, a_inodeState, a_inodePlace, a_inodeClient, a_closeUnits, a_rowLength, a_rowBlock, a_blockStamp, a_replicaHeld, a_replicaStamp, a_unitCount, a_unitValue⟩ h1 h2 h3 hp
        exact XL post _ _ _ _ _ _ _ _ _ _ _ _ _ _ _ _ _ _ _ _ _ _ _ _ _ h1 h3 (fun z => absurd z.1 hm5) (fun _ => hp)
      · rintro post ⟨f_active, f_epoch, a_nodeUp, a_journalUp, a_masterUp, a_touch, a_log, a_many, a_promise, a_base, a_stamp, a_units, a_unit, a_sort, a_placeOf, a_client, a_rowLength, a_row, a_closedWith, a_stampOf⟩ h1 h2 h3 hp
        refine YL post _ _ _ _ _ _ _ _ _ _ _ _ _ _ _ _ _ _ _ _ h1 h3 ?_
        rw [e5, ls_vN]
        exact br_f (nI_pos (by omega)) (br_f ix_n1 hp)
end
theorem i_vc_append {k : Nat} {u : SX} {v : SY} (I : i_Rel k u v) (hk : k + 4 ≤ 2048) (v1 : Int32) (v2 : Int32) (v3 : Int32) : wpX_append (fun r u' => wpY_append (fun r' v' => r' = r ∧ i_Rel (k + 4) u' v') v v1 v2 v3) u v1 v2 v3 := by
  have I' := i_up I
  obtain ⟨T, L, ⟨nu, st, un, ua⟩, h1, h2, h3, h4, h5, h6, h7, h8⟩ := I
  have h7' := lj_ivK (show k ≤ k + 4 by omega) h7
  have hb := rl_bd h7' (by omega) h8
  have he := rl_ep h7' (by omega)
  obtain ⟨n, hn⟩ := ix_e v2 (N := 12) (by decide)
  have hac2 : lj_ac L ≤ 2 := by obtain ⟨mu, ju, ac, ep, to, pr, ba, le, lg⟩ := L; exact h7.2.1
  have R0 : ∀ v', sy_L L v' → sy_D (nu, st, un, ua) v' → i_Rel (k + 4) u v' := fun v' g1 g2 => ⟨T, _, _, h1, h2, h3, g1, g2, h6, h7', h8⟩
  obtain ⟨f_active, f_epoch, a_dataNodeDown, a_journalDown, a_masterDown, a_inTouch, a_promise, a_base, a_logLength, a_logEpoch, a_logKind, a_logA, a_logB, a_logC, a_inodeState, a_inodePlace, a_inodeClient, a_closeUnits, a_rowLength, a_rowBlock, a_blockStamp, a_replicaHeld, a_replicaStamp, a_unitCount, a_unitValue⟩ := u
  obtain ⟨g_active, g_epoch, a_nodeUp, a_journalUp, a_masterUp, a_touch, a_log, a_many, b_promise, b_base, a_stamp, a_units, a_unit, a_sort, a_placeOf, a_client, b_rowLength, a_row, a_closedWith, a_stampOf⟩ := v
  have eX : f_active = qt_m (lj_ac L) := by obtain ⟨mu, ju, ac, ep, to, pr, ba, le, lg⟩ := L; exact h2.1
  have eY : g_active = qt_m (lj_ac L) := by obtain ⟨mu, ju, ac, ep, to, pr, ba, le, lg⟩ := L; exact h4.1
  by_cases ha : lj_ac L = 0
  · exact br_t ((xm_act eX hac2).mpr ha) (br_f (fun z => by have := (ym_act eY hac2).mp z; omega) ⟨rfl, I'⟩)
  have hac : 0 < lj_ac L := by omega
  by_cases hA : n < 12 ∧ qt_so T n = 2 ∧ v1 = qt_m (qt_cl T n)
  · obtain ⟨hlt, hs, hcl⟩ := hA
    have e := ix_i hn hlt
    subst e
    obtain ⟨r, T', L', D', a1, a2, a3, a4, a5⟩ := ap_top (x := v3) (n := n) (by omega) h6 h7' h8 hb hac he hlt hs
    have hv := vp_in_nI hlt (by decide : 12 < 2 ^ 31)
    have hc : (nI n).toNatClampNeg = n := nI_clamp (by omega)
    have Y : ∀ u', sx_T T' u' → sx_L L' u' → sx_D D' u' → wpY_append (fun r' v' => r' = r ∧ i_Rel (k + 4) u' v') (g_active, g_epoch, a_nodeUp, a_journalUp, a_masterUp, a_touch, a_log, a_many, b_promise, b_base, a_stamp, a_units, a_unit, a_sort, a_placeOf, a_client, b_rowLength, a_row, a_closedWith, a_stampOf) v1 (nI n) v3 := by
      intro u' b1 b2 b3
      refine br_t ((ym_act eY hac2).mpr hac) (ym_tellL h7' h4 h5 ?_)
      rintro ⟨f_active, f_epoch, a_nodeUp, a_journalUp, a_masterUp, a_touch, a_log, a_many, a_promise, a_base, a_stamp, a_units, a_unit, a_sort, a_placeOf, a_client, a_rowLength, a_row, a_closedWith, a_stampOf⟩ gT gL gD
      have gT := gT hac
      have K := a5 (fun r' v' => r' = r ∧ i_Rel (k + 4) u' v') (f_active, f_epoch, a_nodeUp, a_journalUp, a_masterUp, a_touch, a_log, a_many, a_promise, a_base, a_stamp, a_units, a_unit, a_sort, a_placeOf, a_client, a_rowLength, a_row, a_closedWith, a_stampOf) gT gL gD (fun v' m1 m2 => ⟨rfl, T', L', D', b1, b2, b3, m1, m2, a1, a2, a3⟩)
      refine ym_isFile (v := (f_active, f_epoch, a_nodeUp, a_journalUp, a_masterUp, a_touch, a_log, a_many, a_promise, a_base, a_stamp, a_units, a_unit, a_sort, a_placeOf, a_client, a_rowLength, a_row, a_closedWith, a_stampOf)) gT h6 hn (fun _ _ => br_f bo_1 ⟨hv, br_t ((cd_e (c := 2) (qt_ag1 gT n hlt) (by omega) (by omega) (by decide)).mpr hs) ⟨hv, br_t ?_ K⟩⟩) (fun z => absurd (z hlt) (by omega))
      rw [hc, qt_ag3 gT n hlt hs]
      exact hcl.symm
    have K := a4 (fun r u' => wpY_append (fun r' v' => r' = r ∧ i_Rel (k + 4) u' v') (g_active, g_epoch, a_nodeUp, a_journalUp, a_masterUp, a_touch, a_log, a_many, b_promise, b_base, a_stamp, a_units, a_unit, a_sort, a_placeOf, a_client, b_rowLength, a_row, a_closedWith, a_stampOf) v1 (nI n) v3) (f_active, f_epoch, a_dataNodeDown, a_journalDown, a_masterDown, a_inTouch, a_promise, a_base, a_logLength, a_logEpoch, a_logKind, a_logA, a_logB, a_logC, a_inodeState, a_inodePlace, a_inodeClient, a_closeUnits, a_rowLength, a_rowBlock, a_blockStamp, a_replicaHeld, a_replicaStamp, a_unitCount, a_unitValue) h1 h2 h3 Y
    refine br_f (fun z => ha ((xm_act eX hac2).mp z)) (xm_isOpen (u := (f_active, f_epoch, a_dataNodeDown, a_journalDown, a_masterDown, a_inTouch, a_promise, a_base, a_logLength, a_logEpoch, a_logKind, a_logA, a_logB, a_logC, a_inodeState, a_inodePlace, a_inodeClient, a_closeUnits, a_rowLength, a_rowBlock, a_blockStamp, a_replicaHeld, a_replicaStamp, a_unitCount, a_unitValue)) h1 h6 hn (fun _ _ => br_f bo_1 ⟨hv, br_t ?_ K⟩) (fun z => absurd hs (z hlt)))
    rw [hc, qt_ag3 h1 n hlt hs]
    exact hcl.symm
  · have Y : wpY_append (fun r' v' => r' = -2 ∧ i_Rel (k + 4) (f_active, f_epoch, a_dataNodeDown, a_journalDown, a_masterDown, a_inTouch, a_promise, a_base, a_logLength, a_logEpoch, a_logKind, a_logA, a_logB, a_logC, a_inodeState, a_inodePlace, a_inodeClient, a_closeUnits, a_rowLength, a_rowBlock, a_blockStamp, a_replicaHeld, a_replicaStamp, a_unitCount, a_unitValue) v') (g_active, g_epoch, a_nodeUp, a_journalUp, a_masterUp, a_touch, a_log, a_many, b_promise, b_base, a_stamp, a_units, a_unit, a_sort, a_placeOf, a_client, b_rowLength, a_row, a_closedWith, a_stampOf) v1 v2 v3 := by
      refine br_t ((ym_act eY hac2).mpr hac) (ym_tellL h7' h4 h5 ?_)
      generalize hQ : (fun (r' : Int32) v' => r' = -2 ∧ i_Rel (k + 4) (f_active, f_epoch, a_dataNodeDown, a_journalDown, a_masterDown, a_inTouch, a_promise, a_base, a_logLength, a_logEpoch, a_logKind, a_logA, a_logB, a_logC, a_inodeState, a_inodePlace, a_inodeClient, a_closeUnits, a_rowLength, a_rowBlock, a_blockStamp, a_replicaHeld, a_replicaStamp, a_unitCount, a_unitValue) v') = post
      have hpost : ∀ v', sy_L L v' → sy_D (nu, st, un, ua) v' → post (-2) v' := by
        intro v' m1 m2
        rw [← hQ]
        exact ⟨rfl, R0 v' m1 m2⟩
      rintro ⟨f_active, f_epoch, a_nodeUp, a_journalUp, a_masterUp, a_touch, a_log, a_many, a_promise, a_base, a_stamp, a_units, a_unit, a_sort, a_placeOf, a_client, a_rowLength, a_row, a_closedWith, a_stampOf⟩ gT gL gD
      have gT := gT hac
      refine ym_isFile (v := (f_active, f_epoch, a_nodeUp, a_journalUp, a_masterUp, a_touch, a_log, a_many, a_promise, a_base, a_stamp, a_units, a_unit, a_sort, a_placeOf, a_client, a_rowLength, a_row, a_closedWith, a_stampOf)) gT h6 hn (fun hlt h2s => br_f bo_1 ?_) (fun z => br_t rfl (hpost _ gL gD))
      have e := ix_i hn hlt
      subst e
      have hv := vp_in_nI hlt (by decide : 12 < 2 ^ 31)
      have hc : (nI n).toNatClampNeg = n := nI_clamp (by omega)
      have hs3 := qt_iv3 h6 n hlt
      refine ⟨hv, cd_if (cd_e (c := 2) (qt_ag1 gT n hlt) (by omega) (by omega) (by decide)) (fun hs => ⟨hv, br_f (fun z => hA ⟨hlt, hs, ?_⟩) (hpost _ gL gD)⟩) (fun hs => hpost _ gL gD)⟩
      rw [hc, qt_ag3 gT n hlt hs] at z
      exact z.symm
    refine br_f (fun z => ha ((xm_act eX hac2).mp z)) (xm_isOpen (u := (f_active, f_epoch, a_dataNodeDown, a_journalDown, a_masterDown, a_inTouch, a_promise, a_base, a_logLength, a_logEpoch, a_logKind, a_logA, a_logB, a_logC, a_inodeState, a_inodePlace, a_inodeClient, a_closeUnits, a_rowLength, a_rowBlock, a_blockStamp, a_replicaHeld, a_replicaStamp, a_unitCount, a_unitValue)) h1 h6 hn (fun hlt hs => br_f bo_1 ?_) (fun z => br_t rfl Y))
    have e := ix_i hn hlt
    subst e
    refine ⟨vp_in_nI hlt (by decide), br_f (fun z => hA ⟨hlt, hs, ?_⟩) Y⟩
    rw [nI_clamp (by omega), qt_ag3 h1 n hlt hs] at z
    exact z.symm
end
