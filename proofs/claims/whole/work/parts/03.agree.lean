/-! real tables that agree with pure ones (F: stamps of blocks in no row, too) -/
def qt_ag (F : Prop) (t : qt_T) (aS aP aC aW aL aR aT : Nat → Int32) : Prop :=
  match t with
  | (so, pl, cl, cw, rl, ro, sp) =>
    (∀ i, i < 12 → aS i = nI (so i)) ∧ (∀ i, i < 12 → aP i = qt_m (pl i)) ∧ (∀ i, i < 12 → so i = 2 → aC i = qt_m (cl i))
      ∧ (∀ i, i < 12 → so i = 3 → aW i = nI (cw i)) ∧ (∀ i, i < 12 → aL i = nI (rl i))
      ∧ (∀ i k, i < 12 → k < rl i → aR (3 * i + k) = nI (ro (3 * i + k)))
      ∧ (∀ b, b < 16 → (F ∨ qt_in rl ro b) → aT b = nI (sp b))
theorem qt_inM {rl rl' ro : Nat → Nat} {b : Nat} (h : ∀ i, i < 12 → rl' i ≤ rl i) (z : qt_in rl' ro b) : qt_in rl ro b := by
  obtain ⟨i, k, hi, hk, e⟩ := z
  have := h i hi
  exact ⟨i, k, hi, by omega, e⟩
theorem qt_uL0 {rl : Nat → Nat} {a i : Nat} : qt_u rl a 0 i ≤ rl i := by
  by_cases h : i = a
  · subst h; rw [qt_us]; omega
  · rw [qt_un h]; omega
theorem qt_agMake {F : Prop} {so pl cl cw rl ro sp : Nat → Nat} {aS aP aC aW aW' aL aR aT : Nat → Int32} {e a b c k : Nat} {v w x : Int32}
    (h : qt_ag F (so, pl, cl, cw, rl, ro, sp) aS aP aC aW aL aR aT) (hv : v = nI (if c = 0 then 1 else 2)) (hw : w = nI b) (hx : x = qt_m c)
    (hW : ∀ i, i ≠ a → aW' i = aW i) :
    qt_ag F (qt_ap (so, pl, cl, cw, rl, ro, sp) (e, 0, a, b, c) k) (upd aS a v) (upd aP a w) (upd aC a x) aW' (upd aL a 0) aR aT := by
  obtain ⟨g1, g2, g3, g4, g5, g6, g7⟩ := h
  refine ⟨?_, ?_, ?_, ?_, ?_, ?_, ?_⟩
  · intro i hi
    by_cases h : i = a
    · subst h; rw [pk_us, qt_us, hv]
    · rw [pk_un h, qt_un h]; exact g1 i hi
  · intro i hi
    by_cases h : i = a
    · subst h; rw [pk_us, qt_us, hw, qt_ms]
    · rw [pk_un h, qt_un h]; exact g2 i hi
  · intro i hi
    by_cases h : i = a
    · subst h; intro _; rw [pk_us, qt_us, hx]
    · rw [pk_un h, qt_un h, qt_un h]; exact g3 i hi
  · intro i hi
    by_cases h : i = a
    · subst h; intro z; rw [qt_us] at z; split at z <;> omega
    · rw [qt_un h, qt_un h, hW i h]; exact g4 i hi
  · intro i hi
    by_cases h : i = a
    · subst h; rw [pk_us, qt_us]; rfl
    · rw [pk_un h, qt_un h]; exact g5 i hi
  · intro i k hi hk
    exact g6 i k hi (Nat.lt_of_lt_of_le hk qt_uL0)
  · intro b hb hF
    exact g7 b hb (hF.imp id (qt_inM (fun i _ => qt_uL0)))
theorem qt_agBlock {F : Prop} {so pl cl cw rl ro sp : Nat → Nat} {aS aP aC aW aL aR aT : Nat → Int32} {e a b c k : Nat} {v w x : Int32}
    (h : qt_ag F (so, pl, cl, cw, rl, ro, sp) aS aP aC aW aL aR aT) (hv : v = nI (rl a + 1)) (hw : w = nI b) (hx : x = nI (2048 * e + k))
    (h3 : ∀ i, i < 12 → rl i ≤ 3) (ha : rl a < 3) :
    qt_ag F (qt_ap (so, pl, cl, cw, rl, ro, sp) (e, 1, a, b, c) k) aS aP aC aW (upd aL a v) (upd aR (3 * a + rl a) w) (upd aT b x) := by
  obtain ⟨g1, g2, g3, g4, g5, g6, g7⟩ := h
  refine ⟨g1, g2, g3, g4, ?_, ?_, ?_⟩
  · intro i hi
    by_cases h : i = a
    · subst h; rw [pk_us, qt_us, hv]
    · rw [pk_un h, qt_un h]; exact g5 i hi
  · intro i k hi hk
    by_cases h : i = a
    · subst h
      rw [qt_us] at hk
      by_cases h' : k = rl i
      · subst h'; rw [pk_us, qt_us, hw]
      · rw [pk_un (by omega), qt_un (by omega)]; exact g6 i k hi (by omega)
    · rw [qt_un h] at hk
      have := h3 i hi
      rw [pk_un (by omega), qt_un (by omega)]; exact g6 i k hi hk
  · intro b' hb hF
    by_cases h : b' = b
    · subst h; rw [pk_us, qt_us, hx]
    · rw [pk_un h, qt_un h]
      refine g7 b' hb (hF.imp id ?_)
      rintro ⟨i, k, hi, hk, hr⟩
      by_cases hi' : i = a
      · subst hi'
        rw [qt_us] at hk
        by_cases h' : k = rl i
        · subst h'; rw [qt_us] at hr; exact absurd hr.symm h
        · rw [qt_un (by omega)] at hr; exact ⟨i, k, hi, by omega, hr⟩
      · rw [qt_un hi'] at hk
        have := h3 i hi
        rw [qt_un (by omega)] at hr; exact ⟨i, k, hi, hk, hr⟩
theorem qt_agStamp {F : Prop} {so pl cl cw rl ro sp : Nat → Nat} {aS aP aC aW aL aR aT : Nat → Int32} {e a b c k : Nat} {x : Int32}
    (h : qt_ag F (so, pl, cl, cw, rl, ro, sp) aS aP aC aW aL aR aT) (hx : x = nI (2048 * e + k)) :
    qt_ag F (qt_ap (so, pl, cl, cw, rl, ro, sp) (e, 2, a, b, c) k) aS aP aC aW aL aR (upd aT a x) := by
  obtain ⟨g1, g2, g3, g4, g5, g6, g7⟩ := h
  refine ⟨g1, g2, g3, g4, g5, g6, ?_⟩
  intro b' hb hF
  by_cases h : b' = a
  · subst h; rw [pk_us, qt_us, hx]
  · rw [pk_un h, qt_un h]; exact g7 b' hb hF
theorem qt_agClose {F : Prop} {so pl cl cw rl ro sp : Nat → Nat} {aS aP aC aW aL aL' aR aT : Nat → Int32} {e a b c k : Nat} {x : Int32}
    (h : qt_ag F (so, pl, cl, cw, rl, ro, sp) aS aP aC aW aL aR aT) (hx : x = nI b)
    (hL : ∀ i, i < 12 → aL' i = nI ((if b = 0 then qt_u rl a (rl a - 1) else rl) i)) :
    qt_ag F (qt_ap (so, pl, cl, cw, rl, ro, sp) (e, 3, a, b, c) k) (upd aS a 3) aP aC (upd aW a x) aL' aR aT := by
  obtain ⟨g1, g2, g3, g4, g5, g6, g7⟩ := h
  refine ⟨?_, g2, ?_, ?_, hL, ?_, ?_⟩
  · intro i hi
    by_cases h : i = a
    · subst h; rw [pk_us, qt_us]; rfl
    · rw [pk_un h, qt_un h]; exact g1 i hi
  · intro i hi
    by_cases h : i = a
    · subst h; intro z; rw [qt_us] at z; omega
    · rw [qt_un h]; exact g3 i hi
  · intro i hi
    by_cases h : i = a
    · subst h; intro _; rw [pk_us, qt_us, hx]
    · rw [qt_un h, qt_un h, pk_un h]; exact g4 i hi
  · intro i k hi hk
    exact g6 i k hi (Nat.lt_of_lt_of_le hk qt_rlC)
  · intro b hb hF
    exact g7 b hb (hF.imp id (qt_inM (fun i _ => qt_rlC)))
theorem qt_agRemove {F : Prop} {so pl cl cw rl ro sp : Nat → Nat} {aS aP aC aW aL aR aT : Nat → Int32} {e a b c k : Nat}
    (h : qt_ag F (so, pl, cl, cw, rl, ro, sp) aS aP aC aW aL aR aT) :
    qt_ag F (qt_ap (so, pl, cl, cw, rl, ro, sp) (e, 4, a, b, c) k) (upd aS a 0) aP aC aW (upd aL a 0) aR aT := by
  obtain ⟨g1, g2, g3, g4, g5, g6, g7⟩ := h
  refine ⟨?_, g2, ?_, ?_, ?_, ?_, ?_⟩
  · intro i hi
    by_cases h : i = a
    · subst h; rw [pk_us, qt_us]; rfl
    · rw [pk_un h, qt_un h]; exact g1 i hi
  · intro i hi
    by_cases h : i = a
    · subst h; intro z; rw [qt_us] at z; omega
    · rw [qt_un h]; exact g3 i hi
  · intro i hi
    by_cases h : i = a
    · subst h; intro z; rw [qt_us] at z; omega
    · rw [qt_un h]; exact g4 i hi
  · intro i hi
    by_cases h : i = a
    · subst h; rw [pk_us, qt_us]; rfl
    · rw [pk_un h, qt_un h]; exact g5 i hi
  · intro i k hi hk
    exact g6 i k hi (Nat.lt_of_lt_of_le hk qt_uL0)
  · intro b hb hF
    exact g7 b hb (hF.imp id (qt_inM (fun i _ => qt_uL0)))
theorem qt_agMove {F : Prop} {so pl cl cw rl ro sp : Nat → Nat} {aS aP aC aW aL aR aT : Nat → Int32} {e a b c k : Nat} {w : Int32}
    (h : qt_ag F (so, pl, cl, cw, rl, ro, sp) aS aP aC aW aL aR aT) (hw : w = nI b) :
    qt_ag F (qt_ap (so, pl, cl, cw, rl, ro, sp) (e, 5, a, b, c) k) aS (upd aP a w) aC aW aL aR aT := by
  obtain ⟨g1, g2, g3, g4, g5, g6, g7⟩ := h
  refine ⟨g1, ?_, g3, g4, g5, g6, g7⟩
  intro i hi
  by_cases h : i = a
  · subst h; rw [pk_us, qt_us, hw, qt_ms]
  · rw [pk_un h, qt_un h]; exact g2 i hi
