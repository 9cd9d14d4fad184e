/-! reading the tables: the component -/
theorem qt_ag1 {F : Prop} {T : qt_T} {aS aP aC aW aL aR aT : Nat → Int32} (h : qt_ag F T aS aP aC aW aL aR aT) : ∀ i, i < 12 → aS i = nI (qt_so T i) := h.1
theorem qt_ag2 {F : Prop} {T : qt_T} {aS aP aC aW aL aR aT : Nat → Int32} (h : qt_ag F T aS aP aC aW aL aR aT) : ∀ i, i < 12 → aP i = qt_m (qt_pl T i) := h.2.1
theorem qt_ag3 {F : Prop} {T : qt_T} {aS aP aC aW aL aR aT : Nat → Int32} (h : qt_ag F T aS aP aC aW aL aR aT) : ∀ i, i < 12 → qt_so T i = 2 → aC i = qt_m (qt_cl T i) := h.2.2.1
theorem qt_ag4 {F : Prop} {T : qt_T} {aS aP aC aW aL aR aT : Nat → Int32} (h : qt_ag F T aS aP aC aW aL aR aT) : ∀ i, i < 12 → qt_so T i = 3 → aW i = nI (qt_cw T i) := h.2.2.2.1
theorem qt_ag5 {F : Prop} {T : qt_T} {aS aP aC aW aL aR aT : Nat → Int32} (h : qt_ag F T aS aP aC aW aL aR aT) : ∀ i, i < 12 → aL i = nI (qt_rl T i) := h.2.2.2.2.1
theorem qt_ag6 {F : Prop} {T : qt_T} {aS aP aC aW aL aR aT : Nat → Int32} (h : qt_ag F T aS aP aC aW aL aR aT) : ∀ i k, i < 12 → k < qt_rl T i → aR (3 * i + k) = nI (qt_ro T (3 * i + k)) := h.2.2.2.2.2.1
theorem qt_ag7 {F : Prop} {T : qt_T} {aS aP aC aW aL aR aT : Nat → Int32} (h : qt_ag F T aS aP aC aW aL aR aT) : ∀ b, b < 16 → (F ∨ qt_in (qt_rl T) (qt_ro T) b) → aT b = nI (qt_sp T b) := h.2.2.2.2.2.2
theorem qt_iv1 {T : qt_T} (I : qt_iv T) : qt_so T 0 = 1 := I.1
theorem qt_iv2 {T : qt_T} (I : qt_iv T) : qt_pl T 0 = 0 := I.2.1
theorem qt_iv3 {T : qt_T} (I : qt_iv T) : ∀ i, i < 12 → qt_so T i ≤ 3 := I.2.2.1
theorem qt_iv4 {T : qt_T} (I : qt_iv T) : ∀ i, i < 12 → qt_rl T i ≤ 3 := I.2.2.2.1
theorem qt_iv5 {T : qt_T} (I : qt_iv T) : ∀ i k, i < 12 → k < qt_rl T i → qt_ro T (3 * i + k) < 16 := I.2.2.2.2.1
theorem qt_iv6 {T : qt_T} (I : qt_iv T) : ∀ i, 1 ≤ i → i < 12 → qt_so T i ≠ 0 → 1 ≤ qt_pl T i ∧ qt_pl T i ≤ 96 ∧ qt_so T (qt_pa (qt_pl T) i) = 1 := I.2.2.2.2.2.1
theorem qt_iv7 {T : qt_T} (I : qt_iv T) : ∃ r, qt_tr (qt_so T) (qt_pl T) r ∧ ∀ i, i < 12 → r i < 12 := qt_rank I
theorem qt_iv8 {T : qt_T} (I : qt_iv T) : ∀ b, b < 16 → qt_sp T b < 2097152 := I.2.2.2.2.2.2.2.1
theorem qt_iv9 {T : qt_T} (I : qt_iv T) : ∀ i, i < 12 → qt_cl T i ≤ 4 := I.2.2.2.2.2.2.2.2.1
theorem qt_iv10 {T : qt_T} (I : qt_iv T) : ∀ i, i < 12 → qt_cw T i ≤ 8 := I.2.2.2.2.2.2.2.2.2
theorem cd_if {c d A B : Prop} (e : c ↔ d) (f : d → A) (g : ¬ d → B) : (c → A) ∧ (¬ c → B) := ⟨fun z => f (e.mp z), fun z => g (fun y => z (e.mpr y))⟩
theorem cd_e {a : Nat → Int32} {i v c : Nat} (h : a i = nI v) (hi : i < 2 ^ 31) (hv : v < 2 ^ 31) (hc : c < 2 ^ 31) : a (nI i).toNatClampNeg = nI c ↔ v = c := by rw [nI_clamp hi, h, nI_eq hv hc]
theorem cd_le {a : Nat → Int32} {i v c : Nat} (h : a i = nI v) (hi : i < 2 ^ 31) (hv : v < 2 ^ 31) (hc : c < 2 ^ 31) : nI c ≤ a (nI i).toNatClampNeg ↔ c ≤ v := by rw [nI_clamp hi, h, nI_leI hc hv]
theorem cd_ge {a : Nat → Int32} {i v c : Nat} (h : a i = nI v) (hi : i < 2 ^ 31) (hv : v < 2 ^ 31) (hc : c < 2 ^ 31) : a (nI i).toNatClampNeg ≤ nI c ↔ v ≤ c := by rw [nI_clamp hi, h, nI_leI hv hc]
theorem cd_lt {a : Nat → Int32} {i v c : Nat} (h : a i = nI v) (hi : i < 2 ^ 31) (hv : v < 2 ^ 31) (hc : c < 2 ^ 31) : nI c < a (nI i).toNatClampNeg ↔ c < v := by rw [nI_clamp hi, h, nI_ltI hc hv]
theorem cd_me {a : Nat → Int32} {i v c : Nat} (h : a i = qt_m v) (hi : i < 2 ^ 31) (hv : v < 2 ^ 31) (hc : c < 2 ^ 31) : a (nI i).toNatClampNeg = nI c ↔ v = c + 1 := by rw [nI_clamp hi, h, qt_mEn hv hc]
theorem cd_m1 {a : Nat → Int32} {i v : Nat} (h : a i = qt_m v) (hi : i < 2 ^ 31) (hv : v < 2 ^ 31) : a (nI i).toNatClampNeg = -1 ↔ v = 0 := by rw [nI_clamp hi, h, qt_m0E hv]
theorem cd_p {a : Nat → Int32} {i : Nat} {x : Bool} (h : a i = bo_p x) (hi : i < 2 ^ 31) : a (nI i).toNatClampNeg = 0 ↔ x = false := by rw [nI_clamp hi, h, bo_p0]
theorem cd_n {a : Nat → Int32} {i : Nat} {x : Bool} (h : a i = bo_n x) (hi : i < 2 ^ 31) : a (nI i).toNatClampNeg = 0 ↔ x = true := by rw [nI_clamp hi, h, bo_n0]
theorem cd_v {a : Nat → Int32} {i : Nat} (hi : i < 2 ^ 31) : a (nI i).toNatClampNeg = a i := by rw [nI_clamp hi]
theorem bo_1 : ¬ (1 : Int32) = 0 := by decide
theorem xm_isPresent {T : qt_T} {u : SX} (h : sx_T T u) (hI : qt_iv T) {post : Int32 → Prop} {i : Int32} {n : Nat} (hn : ix_c i 12 n) (h1 : n < 12 → qt_so T n ≠ 0 → post 1) (h0 : (n < 12 → qt_so T n = 0) → post 0) : wpX_isPresent post u i := by
  obtain ⟨f_active, f_epoch, a_dataNodeDown, a_journalDown, a_masterDown, a_inTouch, a_promise, a_base, a_logLength, a_logEpoch, a_logKind, a_logA, a_logB, a_logC, a_inodeState, a_inodePlace, a_inodeClient, a_closeUnits, a_rowLength, a_rowBlock, a_blockStamp, a_replicaHeld, a_replicaStamp, a_unitCount, a_unitValue⟩ := u
  refine ix_t hn rfl (by decide) (fun hlt e => ?_) (fun e => h0 (fun z => by omega))
  subst e
  have hb := qt_iv3 hI n hlt
  exact ⟨vp_in_nI hlt (by decide), cd_if (cd_e (c := 0) (qt_ag1 h n hlt) (by omega) (by omega) (by decide)) (fun z => h0 (fun _ => z)) (fun z => h1 hlt z)⟩
theorem xm_isDirectory {T : qt_T} {u : SX} (h : sx_T T u) (hI : qt_iv T) {post : Int32 → Prop} {i : Int32} {n : Nat} (hn : ix_c i 12 n) (h1 : n < 12 → qt_so T n = 1 → post 1) (h0 : (n < 12 → qt_so T n ≠ 1) → post 0) : wpX_isDirectory post u i := by
  obtain ⟨f_active, f_epoch, a_dataNodeDown, a_journalDown, a_masterDown, a_inTouch, a_promise, a_base, a_logLength, a_logEpoch, a_logKind, a_logA, a_logB, a_logC, a_inodeState, a_inodePlace, a_inodeClient, a_closeUnits, a_rowLength, a_rowBlock, a_blockStamp, a_replicaHeld, a_replicaStamp, a_unitCount, a_unitValue⟩ := u
  unfold wpX_isDirectory
  refine xm_isPresent (u := (f_active, f_epoch, a_dataNodeDown, a_journalDown, a_masterDown, a_inTouch, a_promise, a_base, a_logLength, a_logEpoch, a_logKind, a_logA, a_logB, a_logC, a_inodeState, a_inodePlace, a_inodeClient, a_closeUnits, a_rowLength, a_rowBlock, a_blockStamp, a_replicaHeld, a_replicaStamp, a_unitCount, a_unitValue)) h hI hn (fun hlt hs => br_f bo_1 ?_) (fun hs => br_t rfl (h0 (fun hlt z => by have := hs hlt; omega)))
  have e := ix_i hn hlt
  subst e
  have hb := qt_iv3 hI n hlt
  exact ⟨vp_in_nI hlt (by decide), cd_if (cd_e (c := 1) (qt_ag1 h n hlt) (by omega) (by omega) (by decide)) (fun z => h1 hlt z) (fun z => h0 (fun _ => z))⟩
theorem xm_isFile {T : qt_T} {u : SX} (h : sx_T T u) (hI : qt_iv T) {post : Int32 → Prop} {i : Int32} {n : Nat} (hn : ix_c i 12 n) (h1 : n < 12 → 2 ≤ qt_so T n → post 1) (h0 : (n < 12 → qt_so T n < 2) → post 0) : wpX_isFile post u i := by
  obtain ⟨f_active, f_epoch, a_dataNodeDown, a_journalDown, a_masterDown, a_inTouch, a_promise, a_base, a_logLength, a_logEpoch, a_logKind, a_logA, a_logB, a_logC, a_inodeState, a_inodePlace, a_inodeClient, a_closeUnits, a_rowLength, a_rowBlock, a_blockStamp, a_replicaHeld, a_replicaStamp, a_unitCount, a_unitValue⟩ := u
  unfold wpX_isFile
  refine xm_isPresent (u := (f_active, f_epoch, a_dataNodeDown, a_journalDown, a_masterDown, a_inTouch, a_promise, a_base, a_logLength, a_logEpoch, a_logKind, a_logA, a_logB, a_logC, a_inodeState, a_inodePlace, a_inodeClient, a_closeUnits, a_rowLength, a_rowBlock, a_blockStamp, a_replicaHeld, a_replicaStamp, a_unitCount, a_unitValue)) h hI hn (fun hlt hs => br_f bo_1 ?_) (fun hs => br_t rfl (h0 (fun hlt => by have := hs hlt; omega)))
  have e := ix_i hn hlt
  subst e
  have hb := qt_iv3 hI n hlt
  exact ⟨vp_in_nI hlt (by decide), cd_if (cd_e (c := 1) (qt_ag1 h n hlt) (by omega) (by omega) (by decide)) (fun z => h0 (fun _ => by omega)) (fun z => h1 hlt (by omega))⟩
theorem xm_isOpen {T : qt_T} {u : SX} (h : sx_T T u) (hI : qt_iv T) {post : Int32 → Prop} {i : Int32} {n : Nat} (hn : ix_c i 12 n) (h1 : n < 12 → qt_so T n = 2 → post 1) (h0 : (n < 12 → qt_so T n ≠ 2) → post 0) : wpX_isOpen post u i := by
  obtain ⟨f_active, f_epoch, a_dataNodeDown, a_journalDown, a_masterDown, a_inTouch, a_promise, a_base, a_logLength, a_logEpoch, a_logKind, a_logA, a_logB, a_logC, a_inodeState, a_inodePlace, a_inodeClient, a_closeUnits, a_rowLength, a_rowBlock, a_blockStamp, a_replicaHeld, a_replicaStamp, a_unitCount, a_unitValue⟩ := u
  unfold wpX_isOpen
  refine xm_isPresent (u := (f_active, f_epoch, a_dataNodeDown, a_journalDown, a_masterDown, a_inTouch, a_promise, a_base, a_logLength, a_logEpoch, a_logKind, a_logA, a_logB, a_logC, a_inodeState, a_inodePlace, a_inodeClient, a_closeUnits, a_rowLength, a_rowBlock, a_blockStamp, a_replicaHeld, a_replicaStamp, a_unitCount, a_unitValue)) h hI hn (fun hlt hs => br_f bo_1 ?_) (fun hs => br_t rfl (h0 (fun hlt z => by have := hs hlt; omega)))
  have e := ix_i hn hlt
  subst e
  have hb := qt_iv3 hI n hlt
  exact ⟨vp_in_nI hlt (by decide), cd_if (cd_e (c := 2) (qt_ag1 h n hlt) (by omega) (by omega) (by decide)) (fun z => h1 hlt z) (fun z => h0 (fun _ => z))⟩
