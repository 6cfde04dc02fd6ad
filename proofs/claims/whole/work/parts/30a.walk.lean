/-! WALKS: THE CLASS'S SPREAD -/
def opM (s : Sg) : Int64 := mkm (thr s) 36 &&& (mkm (isW s) 36 ^^^ (-1))
def rm (s : Sg) (a : Nat) : Nat → Int64
  | 0 => q_lshl 1 (nn a)
  | k + 1 => rm s a k ||| (grw (rm s a k) &&& opM s)
def fsA (p : Nat → Bool) : Nat → Option Nat
  | 0 => none
  | k + 1 => match fsA p k with
    | some b => some b
    | none => if p k then some k else none
theorem fsA_lt {p : Nat → Bool} : ∀ {k b : Nat}, fsA p k = some b → b < k
  | 0, b, h => by cases h
  | k + 1, b, h => by
    have ih := fsA_lt (p := p) (k := k) (b := b)
    have h : (match fsA p k with
      | some b => some b
      | none => if p k then some k else none) = some b := h
    revert h ih
    cases fsA p k with
    | some c =>
      intro ih h
      have : some c = some b := h
      have := ih this
      omega
    | none =>
      intro _ h
      have h : (if p k = true then some k else none) = some b := h
      split at h
      · cases h; omega
      · cases h
theorem fsA_f {p : Nat → Bool} {k : Nat} (h : p k = false) : fsA p (k + 1) = fsA p k := by
  show (match fsA p k with
    | some b => some b
    | none => if p k then some k else none) = _
  cases fsA p k with
  | some c => rfl
  | none =>
    show (if p k = true then some k else none) = none
    rw [if_neg (by rw [h]; decide)]
theorem fsA_s {p : Nat → Bool} {k b : Nat} (h : fsA p k = some b) : fsA p (k + 1) = some b := by
  show (match fsA p k with
    | some b => some b
    | none => if p k then some k else none) = _
  rw [h]
theorem fsA_n {p : Nat → Bool} {k : Nat} (h : fsA p k = none) (e : p k = true) : fsA p (k + 1) = some k := by
  show (match fsA p k with
    | some b => some b
    | none => if p k then some k else none) = _
  rw [h]
  exact if_pos e
def oN (c : Int32) : Option Nat → Int32
  | none => c
  | some b => nn b
/-- how far from one hill to another -/
def hw (s : Sg) (a i n : Nat) : Option Nat := fsA (fun k => tb (rm s a k) (hAt s i)) n
theorem k_spread {s : Sg} {h : qa_M} (w : WF s) (r : RelL 4 s h) {i0 : Nat} (hi0 : i0 < gH s) : qW (m_X10_spread (nn i0) h) (fun g => (∀ i, i < gH s → g.1 49 (i0 * 8 + i) = oN 1000000 (hw s (hAt s i0) i 36)) ∧ ∀ j, j < i0 * 8 → g.1 49 j = h.1 49 j) := by
  have l8 := w.h.2
  have e2 : h.1 4 2 = nn (gH s) := r.1.2.2.1.trans w.h.1
  have e5 : ∀ i, i < gH s → h.1 5 i = nn (hAt s i) ∧ hAt s i ≤ 35 := fun i hi => ⟨(r.2.2.1 i hi).1.trans (w.hA hi).1, (w.hA hi).2⟩
  have a0 := e5 i0 hi0
  unfold m_X10_spread
  rw [qck_nn (by omega) (by omega), nn_cl (by omega), a0.1, qbd_e, qbd_e]
  unfold f_X10_spread_b12_loop
  refine qW_for (gH s) (fun k t => ∃ g, t = (nn i0, rm s (hAt s i0) 0, nn k, g) ∧ qfr [(49, 0)] h g ∧ (∀ i, i < k → g.1 49 (i0 * 8 + i) = 1000000) ∧ ∀ j, j < i0 * 8 → g.1 49 j = h.1 49 j) ?_ ?_ (Nat.zero_le _) ⟨h, rfl, qfr_rf, fun i hi => by omega, fun j _ => rfl⟩
  · rintro k t hk ⟨g, rfl, f, z, o⟩
    show qW (f_X10_spread_b12 (nn i0) (rm s (hAt s i0) 0) (nn k) g) _
    unfold f_X10_spread_b12
    rw [(f.1 4 2 rfl).1, e2, if_neg (fun q => by rw [nn_le (by omega) (by omega)] at q; omega), show (8 : Int32) = nn 8 from rfl, nn_mul, nn_add, qck_nn (by omega) (by omega), nn_cl (by omega), qbd_e, qbd_e, nn_add1, qW_some]
    refine ⟨_, rfl, qfr_tr f (qfr_I0 rfl (by simp) qfr_rf), fun i hi => ?_, fun j hj => by rw [wI_ne (by omega)]; exact o j hj⟩
    by_cases c : i = k
    · subst c
      exact wI_at
    · rw [wI_ne (by omega)]
      exact z i (by omega)
  · rintro t ⟨g1, rfl, f1, z1, o1⟩
    show qW (f_X10_spread_b12 (nn i0) (rm s (hAt s i0) 0) (nn (gH s)) g1) _
    unfold f_X10_spread_b12 f_X10_spread_b41
    rw [(f1.1 4 2 rfl).1, e2, if_pos ((nn_le (by omega) (by omega)).mpr (by omega)), qbd_e, qW_up]
    unfold f_X10_spread_b44_loop
    refine qW_for 36 (fun k t => ∃ g, t = (nn i0, rm s (hAt s i0) k, nn k, g) ∧ qfr [(49, 0)] h g ∧ (∀ i, i < gH s → g.1 49 (i0 * 8 + i) = oN 1000000 (hw s (hAt s i0) i k)) ∧ ∀ j, j < i0 * 8 → g.1 49 j = h.1 49 j) ?_ ?_ (Nat.zero_le _) ⟨g1, rfl, f1, fun i hi => z1 i hi, o1⟩
    · rintro k t hk ⟨g2, rfl, f2, z2, o2⟩
      show qW (f_X10_spread_b44 (nn i0) (rm s (hAt s i0) k) (nn k) g2) _
      unfold f_X10_spread_b44
      rw [if_neg (fun q => by rw [show (36 : Int32) = nn 36 from rfl, nn_le (by omega) (by omega)] at q; omega), qbd_e]
      unfold f_X10_spread_b54_loop
      refine qW_for (gH s) (fun n t => ∃ g, t = (nn i0, rm s (hAt s i0) k, nn k, nn n, g) ∧ qfr [(49, 0)] h g ∧ (∀ i, i < gH s → g.1 49 (i0 * 8 + i) = oN 1000000 (hw s (hAt s i0) i (if i < n then k + 1 else k))) ∧ ∀ j, j < i0 * 8 → g.1 49 j = h.1 49 j) ?_ ?_ (Nat.zero_le _) ⟨g2, rfl, f2, fun i hi => by rw [if_neg (by omega)]; exact z2 i hi, o2⟩
      · rintro n t hn ⟨g, rfl, f, z, o⟩
        have an := e5 n hn
        have zn := z n hn
        rw [if_neg (by omega)] at zn
        show qW (f_X10_spread_b54 (nn i0) (rm s (hAt s i0) k) (nn k) (nn n) g) _
        unfold f_X10_spread_b54 f_X10_spread_b109
        rw [(f.1 4 2 rfl).1, e2, if_neg (fun q => by rw [nn_le (by omega) (by omega)] at q; omega), show (8 : Int32) = nn 8 from rfl, nn_mul, nn_add, qbd_e, qck_nn (by omega) (by omega), nn_cl (by omega), (f.1 5 n rfl).1, an.1]
        have same : hw s (hAt s i0) n (k + 1) = hw s (hAt s i0) n k → ∀ i, i < gH s → g.1 49 (i0 * 8 + i) = oN 1000000 (hw s (hAt s i0) i (if i < n + 1 then k + 1 else k)) := by
          intro q i hi
          rw [z i hi]
          by_cases c : i = n
          · subst c
            rw [if_neg (by omega), if_pos (by omega), q]
          · have : (i < n) ↔ (i < n + 1) := by omega
            simp only [this]
        rcases mb2 (tb (rm s (hAt s i0) k) (hAt s n)) with e | e
        · rw [if_neg (by rw [tb_g0 (by omega), e]; decide), qck_nn (by omega) (by omega), nn_cl (by omega), zn]
          cases hf : hw s (hAt s i0) n k with
          | none =>
            rw [if_pos (show oN 1000000 none = 1000000 from rfl), qck_nn (by omega) (by omega), qbd_e, qbd_e, nn_add1, qW_some]
            refine ⟨_, rfl, qfr_tr f (qfr_I0 rfl (by simp) qfr_rf), fun i hi => ?_, fun j hj => by rw [wI_ne (by omega)]; exact o j hj⟩
            by_cases c : i = n
            · subst c
              have q : hw s (hAt s i0) i (k + 1) = some k := fsA_n hf e
              rw [wI_at, if_pos (by omega), q]
              rfl
            · rw [wI_ne (by omega), z i hi]
              have : (i < n) ↔ (i < n + 1) := by omega
              simp only [this]
          | some b =>
            have hb := fsA_lt hf
            have q : hw s (hAt s i0) n (k + 1) = hw s (hAt s i0) n k := (fsA_s hf).trans hf.symm
            rw [show oN 1000000 (some b) = nn b from rfl, if_neg (by rw [show (1000000 : Int32) = nn 1000000 from rfl, nn_eq (by omega) (by omega)]; omega), qbd_e, nn_add1, qW_some]
            exact ⟨g, rfl, f, same q, o⟩
        · have q : hw s (hAt s i0) n (k + 1) = hw s (hAt s i0) n k := fsA_f e
          rw [if_pos (by rw [tb_g0 (by omega), e]), qbd_e, nn_add1, qW_some]
          exact ⟨g, rfl, f, same q, o⟩
      · rintro t ⟨g, rfl, f, z, o⟩
        have g6 : g.2.1 4 6 = mkm (thr s) 36 := by rw [(f.1 4 6 rfl).2.1]; exact r.2.1.1
        have g7 : g.2.1 4 7 = mkm (isW s) 36 := by rw [(f.1 4 7 rfl).2.1]; exact r.2.1.2
        show qW (f_X10_spread_b54 (nn i0) (rm s (hAt s i0) k) (nn k) (nn (gH s)) g) _
        unfold f_X10_spread_b54 f_X10_spread_b115 m_X3_open
        rw [(f.1 4 2 rfl).1, e2, if_pos ((nn_le (by omega) (by omega)).mpr (by omega)), k_grow, qbn_s, qbn_s, g6, g7, qbd_e, qbd_e, nn_add1, qup_s, qW_some]
        exact ⟨g, rfl, f, fun i hi => by have := z i hi; rw [if_pos hi] at this; exact this, o⟩
    · rintro t ⟨g, rfl, f, z, o⟩
      show qW (f_X10_spread_b44 (nn i0) (rm s (hAt s i0) 36) (nn 36) g) _
      unfold f_X10_spread_b44
      rw [if_pos (by decide), qup_s, qW_some]
      exact ⟨z, o⟩
