/-! GUARDS THAT BOTH SIDES ASK -/
def wiN (x : Int32) (n : Nat) : Bool := decide (0 ≤ x.toInt ∧ x.toInt < (n : Int))
theorem wiN_t {x : Int32} {n : Nat} (h : wiN x n = true) : ∃ S, S < n ∧ S < 2147483648 ∧ x = nn S := by
  unfold wiN at h
  rw [decide_eq_true_eq] at h
  obtain ⟨S, hS, e⟩ := nn_of h.1
  refine ⟨S, ?_, hS, e⟩
  have h2 := h.2
  rw [e, nn_toInt hS] at h2
  omega
theorem k_wi {x : Int32} {n : Nat} {h : qa_M} (hn : n < 2147483648) : m_X11_within x (nn n) h = some (bi (wiN x n), h) := by
  rw [r_within, nn_toInt hn]
  rfl
theorem r_wi {x : Int32} {n : Nat} {h : qa_M} (hn : n < 2147483648) : m_X12_in x.toInt64 0 (nn n - 1).toInt64 h = some (bi (wiN x n), h) := by
  rw [r_in, i64_i, i64_i, nn_m1 hn, show (0 : Int64).toInt = 0 from rfl]
  unfold wiN
  congr 3
  rw [decide_eq_decide]
  omega
theorem r_wc {x : Int32} {n : Nat} {y : Int64} {h : qa_M} (hn : y.toInt = (n : Int) - 1) : m_X12_in x.toInt64 0 y h = some (bi (wiN x n), h) := by
  rw [r_in, i64_i, hn, show (0 : Int64).toInt = 0 from rfl]
  unfold wiN
  congr 3
  rw [decide_eq_decide]
  omega
def isq (s : Sg) (x y : Int32) : Bool := decide ((0 ≤ x.toInt ∧ x.toInt < gC s) ∧ (0 ≤ y.toInt ∧ y.toInt < gR s))
theorem isq_t {s : Sg} {x y : Int32} (w : WF s) (h : isq s x y = true) : ∃ a b, a < gC s ∧ b < gR s ∧ x = nn a ∧ y = nn b ∧ 6 * b + a < 36 ∧ thr s (6 * b + a) = true ∧ (6 : Int32) * y + x = nn (6 * b + a) := by
  unfold isq at h
  rw [decide_eq_true_eq] at h
  have l1 := w.c.2
  have l2 := w.r.2
  obtain ⟨a, ha, e1⟩ := nn_of h.1.1
  obtain ⟨b, hb, e2⟩ := nn_of h.2.1
  have h1 := h.1.2
  have h2 := h.2.2
  rw [e1, nn_toInt ha] at h1
  rw [e2, nn_toInt hb] at h2
  refine ⟨a, b, by omega, by omega, e1, e2, by omega, ?_, ?_⟩
  · unfold thr
    rw [Bool.and_eq_true, decide_eq_true_eq, decide_eq_true_eq]
    omega
  · rw [e1, e2, show (6 : Int32) = nn 6 from rfl, nn_mul, nn_add]
def knw (s : Sg) (x : Int32) : Bool := decide (0 < gC s) && wiN x (2 ^ gT s)
theorem gT_pw {s : Sg} (w : WF s) : 2 ^ gT s ≤ 1024 := by
  have := w.t.2
  exact Nat.pow_le_pow_right (by omega) this
theorem knw_t {s : Sg} {x : Int32} (h : knw s x = true) : 0 < gC s ∧ ∃ S, S < 2 ^ gT s ∧ S < 2147483648 ∧ x = nn S := by
  unfold knw at h
  rw [Bool.and_eq_true, decide_eq_true_eq] at h
  exact ⟨h.1, wiN_t h.2⟩
theorem k_known {s : Sg} {x : Int32} {h : qa_M} (w : WF s) (r : RelS 3 s h) : m_X11_known x h = some (bi (knw s x), h) := by
  have e : h.1 3 1 = nn (gT s) := r.2.1.trans w.t.1
  have l := w.t.2
  have p := gT_pw w
  unfold m_X11_known knw
  rw [k_told w r.1, qbn_s]
  by_cases c : 0 < gC s
  · rw [decide_eq_true c, if_neg (by decide), e, nn_sh1 (by omega), k_wi (by omega), qbn_s, Bool.true_and]
    cases wiN x (2 ^ gT s) <;> rfl
  · rw [decide_eq_false c, if_pos bi_f, Bool.false_and]
    rfl
theorem r_known {x : Int32} {h : qa_M} (w : WF (sg h)) : m_X12_isSet x h = some (bi (knw (sg h) x), h) := by
  have e : h.1 120 5 = nn (gT (sg h)) := w.t.1
  have l := w.t.2
  have p := gT_pw w
  unfold m_X12_isSet knw
  rw [r_isLand w, qbn_s]
  by_cases c : 0 < gC (sg h)
  · rw [decide_eq_true c, if_neg (by decide), qck_ok (i := 5) (by decide), show (5 : Int32).toNatClampNeg = 5 from rfl, e, nn_sh1 (by omega), r_wi (by omega), qbn_s, Bool.true_and]
    cases wiN x (2 ^ gT (sg h)) <;> rfl
  · rw [decide_eq_false c, if_pos bi_f, Bool.false_and]
    rfl
/-! HOW MANY LAYINGS -/
def aLays (s : Sg) (L : Nat → Lw) (x : Int32) : Int32 := if knw s x then nn (fitL s L (cN x)).length else -1
theorem r_aLays {x : Int32} {h : qa_M} (w : WF (sg h)) (wl : ∀ k, k + 1 = gL (sg h) → WL (lw h k)) : qW (m_X12_layings x h) (fun z => z.1 = aLays (sg h) (lw h) x) := by
  unfold m_X12_layings aLays
  rw [r_known w, qbn_s]
  by_cases c : knw (sg h) x = true
  · obtain ⟨c0, S, hS, hS2, e⟩ := knw_t c
    rw [c, if_neg (by decide), if_pos rfl, e, cN_nn hS2, qbn_eta]
    exact qW_mono (r_manyFit w wl hS) (fun z hz => hz)
  · rw [Bool.not_eq_true] at c
    rw [c, if_pos bi_f, if_neg (by decide), qW_some]
theorem k_howMany {s : Sg} {L : Nat → Lw} {nl : Nat} {B : Nat → Nat} {n : Nat} {I : Nat → Option qa_M} {v S : Nat} {h : qa_M} (a : AL s L nl) (i : IvC s L nl B n I v h) (hv : v < 2147483648) (hS : S < 2 ^ gT s) : qW (m_X11_howMany (nn S) h) (fun z => z.1 = nn (fitL s L S).length ∧ IvS s L nl B n I v z.2) := by
  unfold m_X11_howMany
  rw [qW_bv]
  refine qW_mono (k_ready a i hv) ?_
  intro g ig
  rw [qbn_eta]
  refine qW_fr (k_total a.wf a.w1 ig.1.nt ig.2.2 ig.1.rs hS) (fun z e => fr_X7_total _ _ e) ?_
  rintro ⟨x, g2⟩ hz f
  have f : qfr w_X7_total g g2 := f
  exact ⟨hz, ig.fr a f (fun b j k => by unfold kpP kpV at k; unfold w_X7_total inW; simp; omega)⟩
theorem k_aLays {s : Sg} {L : Nat → Lw} {nl : Nat} {B : Nat → Nat} {n : Nat} {I : Nat → Option qa_M} {v : Nat} {h : qa_M} {x : Int32} (a : AL s L nl) (i : IvC s L nl B n I v h) (hv : v < 2147483648) : qW (m_X11_layings x h) (fun z => z.1 = aLays s L x ∧ IvC s L nl B n I v z.2) := by
  unfold m_X11_layings aLays
  rw [k_known a.wf i.1.rs, qbn_s]
  by_cases c : knw s x = true
  · obtain ⟨c0, S, hS, hS2, e⟩ := knw_t c
    rw [c, if_neg (by decide), if_pos rfl, e, cN_nn hS2, qbn_eta]
    exact qW_mono (k_howMany a i hv hS) (fun z hz => ⟨hz.1, hz.2.c⟩)
  · rw [Bool.not_eq_true] at c
    rw [c, if_pos bi_f, if_neg (by decide), qW_some]
    exact ⟨rfl, i⟩
/-! ONE LAYING -/
def aLay (s : Sg) (L : Nat → Lw) (x y z : Int32) : Int32 := if knw s x then (if y < 0 then -1 else if wiN z 4 then layA s (fitL s L (cN x)) (cN y) (cN z) else -1) else -1
theorem k_aLay {s : Sg} {L : Nat → Lw} {nl : Nat} {B : Nat → Nat} {n : Nat} {I : Nat → Option qa_M} {v : Nat} {h : qa_M} {x y z : Int32} (a : AL s L nl) (i : IvC s L nl B n I v h) (hv : v < 2147483648) : qW (m_X11_laying x y z h) (fun r => r.1 = aLay s L x y z ∧ IvC s L nl B n I v r.2) := by
  unfold m_X11_laying aLay
  rw [k_known a.wf i.1.rs, qbn_s]
  by_cases c : knw s x = true
  · obtain ⟨c0, S, hS, hS2, e⟩ := knw_t c
    rw [c, if_neg (by decide), if_pos rfl]
    by_cases cy : y < 0
    · rw [if_pos cy, if_pos cy, qW_some]; exact ⟨rfl, i⟩
    · rw [if_neg cy, if_neg cy, show (4 : Int32) = nn 4 from rfl, k_wi (by omega), qbn_s]
      rw [Int32.lt_iff_toInt_lt, show (0 : Int32).toInt = 0 from rfl] at cy
      obtain ⟨p, hp, ey⟩ := nn_of (x := y) (by omega)
      by_cases cz : wiN z 4 = true
      · obtain ⟨k, hk, -, ez⟩ := wiN_t cz
        rw [cz, if_neg (by decide), if_pos rfl, e, ey, ez, cN_nn hS2, cN_nn hp, cN_nn (by omega), qW_bv]
        refine qW_mono (k_ready a i hv) ?_
        intro g ig
        rw [qbn_eta]
        refine qW_fr (k_squareOf a.wf a.w1 ig.1.nt ig.2.2 ig.1.rs hS hp hk) (fun z e => fr_X7_squareOf _ _ _ _ e) ?_
        rintro ⟨x, g2⟩ hz f
        have f : qfr w_X7_squareOf g g2 := f
        exact ⟨hz, (ig.fr a f (fun b j k => by unfold kpP kpV at k; unfold w_X7_squareOf inW; simp; omega)).c⟩
      · rw [Bool.not_eq_true] at cz
        rw [cz, if_pos bi_f, if_neg (by decide), qW_some]; exact ⟨rfl, i⟩
  · rw [Bool.not_eq_true] at c
    rw [c, if_pos bi_f, if_neg (by decide), qW_some]; exact ⟨rfl, i⟩
theorem r_aLay {x y z : Int32} {h : qa_M} (w : WF (sg h)) (wl : ∀ k, k + 1 = gL (sg h) → WL (lw h k)) : qW (m_X12_laying x y z h) (fun r => r.1 = aLay (sg h) (lw h) x y z) := by
  have hn := w.n
  unfold m_X12_laying aLay
  rw [r_known w, qbn_s]
  by_cases c : knw (sg h) x = true
  · obtain ⟨c0, S, hS, hS2, e⟩ := knw_t c
    rw [c, if_neg (by decide), if_pos rfl]
    by_cases cy : y < 0
    · rw [if_pos cy, if_pos cy, qW_some]
    · rw [if_neg cy, if_neg cy, r_wc (n := 4) (by decide), qbn_s]
      rw [Int32.lt_iff_toInt_lt, show (0 : Int32).toInt = 0 from rfl] at cy
      obtain ⟨p, hp, ey⟩ := nn_of (x := y) (by omega)
      by_cases cz : wiN z 4 = true
      · obtain ⟨k, hk, -, ez⟩ := wiN_t cz
        rw [cz, if_neg (by decide), if_pos rfl, e, ey, ez, cN_nn hS2, cN_nn hp, cN_nn (by omega), qW_bv]
        refine qW_mono (r_beginsG w wl S) ?_
        rintro g ⟨gs, ls, s1, s2⟩
        have e48 : g.1 119 48 = nn (nT (sg h)) := ls.1.1
        rw [e48, qbd_e]
        by_cases ck : k < nT (sg h)
        · rw [if_pos ((nn_lt (by omega) (by omega)).mpr ck)]
          exact r_layLoop w wl s1 hS gs hp ck
        · rw [if_neg (fun q => ck ((nn_lt (by omega) (by omega)).mp q)), qW_some]
          unfold layA
          rw [if_neg ck]
      · rw [Bool.not_eq_true] at cz
        rw [cz, if_pos bi_f, if_neg (by decide), qW_some]
  · rw [Bool.not_eq_true] at c
    rw [c, if_pos bi_f, if_neg (by decide), qW_some]
