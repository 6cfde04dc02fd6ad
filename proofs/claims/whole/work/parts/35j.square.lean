/-! SQUARE, NOTES, COUNT -/
def aSq (s : Sg) (L : Nat → Lw) (x1 x2 x3 : Int32) : Int32 := if isq s x1 x2 then (if x3 = 0 then bi (isW s (cN (6 * x2 + x1))) else if x3 = 1 then hon s (cN (6 * x2 + x1)) else if x3 = 2 then nn (cnt (fun i => seen s (hAt s i) (cN (6 * x2 + x1)) (hFar s i)) (gH s)) else if x3 = 3 then nn (cnt (fun i => onR s i (cN (6 * x2 + x1))) (gO s)) else if x3 = 4 then nn (cnt (fun o => thr s o && (decide (ds o (cN (6 * x2 + x1)) = 1) && isW s o)) 36) else if x3 = 5 then nn (nmk (brS s L (cN (6 * x2 + x1))) (gS s)) else -1) else -1
theorem k_aSq {s : Sg} {L : Nat → Lw} {nl : Nat} {B : Nat → Nat} {n : Nat} {I : Nat → Option qa_M} {v : Nat} {h : qa_M} {x1 x2 x3 : Int32} (a : AL s L nl) (i : IvC s L nl B n I v h) (hv : v < 2147483648) : qW (m_X11_square x1 x2 x3 h) (fun r => r.1 = aSq s L x1 x2 x3 ∧ IvC s L nl B n I v r.2) := by
  unfold m_X11_square aSq
  rw [k_holds a.wf i.1.rs.1, qbn_s]
  show qW (if bi (isq s x1 x2) = 0 then _ else _) _
  by_cases c : isq s x1 x2 = true
  · obtain ⟨u, w, hu, hw, -, -, h36, ht, eq⟩ := isq_t a.wf c
    rw [c, if_neg (by decide), if_pos rfl, qbd_e, eq, cN_nn (by omega)]
    by_cases c0 : x3 = 0
    · rw [if_pos c0, if_pos c0, i.1.rs.1.2.1.2]
      by_cases cw : isW s (6 * w + u) = true
      · rw [if_neg (fun q => by rw [tb_g0 (by omega), tb_mkm (by omega), decide_eq_true h36, cw] at q; cases q), cw, qW_some]; exact ⟨rfl, i⟩
      · rw [Bool.not_eq_true] at cw
        rw [if_pos (by rw [tb_g0 (by omega), tb_mkm (by omega), cw, Bool.and_false]), cw, qW_some]; exact ⟨rfl, i⟩
    · rw [if_neg c0, if_neg c0]
      by_cases c1 : x3 = 1
      · rw [if_pos c1, if_pos c1, k_hillOn4 a.wf i.1.rs.1, qbn_s, qW_some]; exact ⟨rfl, i⟩
      · rw [if_neg c1, if_neg c1]
        by_cases c2 : x3 = 2
        · rw [if_pos c2, if_pos c2, k_hillsThatSee a.wf i.1.rs.1 h36 ht, qbn_s, qW_some]; exact ⟨rfl, i⟩
        · rw [if_neg c2, if_neg c2]
          by_cases c3 : x3 = 3
          · rw [if_pos c3, if_pos c3, k_roadsOf a.wf i.1.rs.1 h36, qbn_s, qW_some]; exact ⟨rfl, i⟩
          · rw [if_neg c3, if_neg c3]
            by_cases c4 : x3 = 4
            · rw [if_pos c4, if_pos c4, k_woodsBeside a.wf i.1.rs.1 h36, qbn_s, qW_some]; exact ⟨rfl, i⟩
            · rw [if_neg c4, if_neg c4]
              by_cases c5 : x3 = 5
              · rw [if_pos c5, if_pos c5, qW_bv]
                refine qW_mono (k_ready a i hv) ?_
                intro g ig
                rw [k_barredAt a.wf ig.1.rs.1 ig.2.2 h36 ht, qbn_s, qW_some]; exact ⟨rfl, ig.c⟩
              · rw [if_neg c5, if_neg c5, qW_some]; exact ⟨rfl, i⟩
  · rw [Bool.not_eq_true] at c
    rw [c, if_pos bi_f, if_neg (by decide), qW_some]; exact ⟨rfl, i⟩
theorem r_aSq {h : qa_M} {x1 x2 x3 : Int32} (w : WF (sg h)) (wl : ∀ k, k + 1 = gL (sg h) → WL (lw h k)) : qW (m_X12_square x1 x2 x3 h) (fun r => r.1 = aSq (sg h) (lw h) x1 x2 x3) := by
  unfold m_X12_square aSq
  rw [r_isSquare w, qbn_s]
  show qW (if bi (isq (sg h) x1 x2) = 0 then _ else _) _
  by_cases c : isq (sg h) x1 x2 = true
  · obtain ⟨u, y, hu, hy, -, -, h36, ht, eq⟩ := isq_t w c
    rw [c, if_neg (by decide), if_pos rfl, r_wc (n := 6) (by decide), qbn_s]
    by_cases cr : wiN x3 6 = true
    · rw [cr, if_neg (by decide), qbd_e, eq, cN_nn (by omega)]
      obtain ⟨d, hd, hd2, ed⟩ := wiN_t cr
      by_cases c0 : x3 = 0
      · rw [if_pos c0, if_pos c0, r_isWood w h36, qbn_s]
        cases isW (sg h) (6 * y + u) with
        | false => rw [if_pos bi_f, qW_some]; rfl
        | true => rw [if_neg (by decide), qW_some]; rfl
      · rw [if_neg c0, if_neg c0]
        by_cases c1 : x3 = 1
        · rw [if_pos c1, if_pos c1, r_hillOn w, qbn_s, qW_some]
        · rw [if_neg c1, if_neg c1]
          by_cases c2 : x3 = 2
          · rw [if_pos c2, if_pos c2, r_manySee w h36, qbn_s, qW_some]
          · rw [if_neg c2, if_neg c2]
            by_cases c3 : x3 = 3
            · rw [if_pos c3, if_pos c3, r_manyRoads w h36, qbn_s, qW_some]
            · rw [if_neg c3, if_neg c3]
              by_cases c4 : x3 = 4
              · rw [if_pos c4, if_pos c4, r_woodsBeside w h36, qbn_s, qW_some]
              · rw [if_neg c4, if_neg c4]
                have c5 : x3 = 5 := by
                  rw [ed] at c0 c1 c2 c3 c4 ⊢
                  have : d = 0 ∨ d = 1 ∨ d = 2 ∨ d = 3 ∨ d = 4 ∨ d = 5 := by omega
                  rcases this with rfl | rfl | rfl | rfl | rfl | rfl
                  · exact absurd rfl c0
                  · exact absurd rfl c1
                  · exact absurd rfl c2
                  · exact absurd rfl c3
                  · exact absurd rfl c4
                  · rfl
                rw [if_pos c5, qbn_eta]
                exact r_barred w wl h36 ht
    · have crf := cr
      rw [Bool.not_eq_true] at crf
      have no : ∀ d, d < 6 → ¬ x3 = nn d := fun d hd q => by
        apply cr
        rw [q]
        unfold wiN
        rw [nn_toInt (by omega), decide_eq_true_eq]
        omega
      rw [crf, if_pos bi_f, if_neg (show ¬ x3 = 0 from no 0 (by omega)), if_neg (show ¬ x3 = 1 from no 1 (by omega)), if_neg (show ¬ x3 = 2 from no 2 (by omega)), if_neg (show ¬ x3 = 3 from no 3 (by omega)), if_neg (show ¬ x3 = 4 from no 4 (by omega)), if_neg (show ¬ x3 = 5 from no 5 (by omega)), qW_some]
  · rw [Bool.not_eq_true] at c
    rw [c, if_pos bi_f, if_neg (by decide), qW_some]
def aNotes (s : Sg) (x y : Int32) : Int32 := if wiN x (gT s) then (if wiN y 5 then s (7 + cN y) (cN x) else -2) else -2
theorem k_aNotes {s : Sg} {x y : Int32} {h : qa_M} (w : WF s) (r : RelS 3 s h) : m_X11_notes x y h = some (aNotes s x y, h) := by
  have e31 : h.1 3 1 = nn (gT s) := r.2.1.trans w.t.1
  have lt := w.t.2
  unfold m_X11_notes aNotes
  rw [e31, k_wi (by omega), qbn_s]
  by_cases c : wiN x (gT s) = true
  · obtain ⟨u, hu, hu2, eu⟩ := wiN_t c
    rw [c, if_neg (by decide), if_pos rfl, show (5 : Int32) = nn 5 from rfl, k_wi (by omega), qbn_s]
    by_cases c2 : wiN y 5 = true
    · obtain ⟨d, hd, hd2, ed⟩ := wiN_t c2
      rw [c2, if_neg (by decide), if_pos rfl, eu, ed, k_fact w r hu hd, qbn_s, cN_nn hd2, cN_nn hu2]
    · rw [Bool.not_eq_true] at c2
      rw [c2, if_pos bi_f, if_neg (by decide)]
  · rw [Bool.not_eq_true] at c
    rw [c, if_pos bi_f, if_neg (by decide)]
theorem r_aNotes {x y : Int32} {h : qa_M} (w : WF (sg h)) : m_X12_notes x y h = some (aNotes (sg h) x y, h) := by
  have e5 : h.1 120 5 = nn (gT (sg h)) := w.t.1
  have lt := w.t.2
  unfold m_X12_notes aNotes
  rw [qck_ok (i := 5) (by decide), show (5 : Int32).toNatClampNeg = 5 from rfl, e5, r_wi (by omega), qbn_s]
  by_cases c : wiN x (gT (sg h)) = true
  · obtain ⟨u, hu, hu2, eu⟩ := wiN_t c
    rw [c, if_neg (by decide), if_pos rfl, eu, qck_nn (by omega) (by omega), nn_cl (by omega), qck_nn (by omega) (by omega), qck_nn (by omega) (by omega), qck_nn (by omega) (by omega), qck_nn (by omega) (by omega), cN_nn hu2]
    by_cases c2 : wiN y 5 = true
    · obtain ⟨d, hd, hd2, ed⟩ := wiN_t c2
      rw [c2, if_pos rfl, ed, cN_nn hd2]
      have : d = 0 ∨ d = 1 ∨ d = 2 ∨ d = 3 ∨ d = 4 := by omega
      rcases this with rfl | rfl | rfl | rfl | rfl
      · rw [if_pos (show nn 0 = (0 : Int32) from rfl)]; rfl
      · rw [if_neg (by decide), if_pos (show nn 1 = (1 : Int32) from rfl)]; rfl
      · rw [if_neg (by decide), if_neg (by decide), if_pos (show nn 2 = (2 : Int32) from rfl)]; rfl
      · rw [if_neg (by decide), if_neg (by decide), if_neg (by decide), if_pos (show nn 3 = (3 : Int32) from rfl)]; rfl
      · rw [if_neg (by decide), if_neg (by decide), if_neg (by decide), if_neg (by decide), if_pos (show nn 4 = (4 : Int32) from rfl)]; rfl
    · have c2f := c2
      rw [Bool.not_eq_true] at c2f
      have no : ∀ d, d < 5 → ¬ y = nn d := fun d hd q => by
        apply c2
        rw [q]
        unfold wiN
        rw [nn_toInt (by omega), decide_eq_true_eq]
        omega
      rw [c2f, if_neg (show ¬ y = 0 from no 0 (by omega)), if_neg (show ¬ y = 1 from no 1 (by omega)), if_neg (show ¬ y = 2 from no 2 (by omega)), if_neg (show ¬ y = 3 from no 3 (by omega)), if_neg (show ¬ y = 4 from no 4 (by omega)), if_neg (by decide)]
  · rw [Bool.not_eq_true] at c
    rw [c, if_pos bi_f, if_neg (by decide)]
theorem r_allThings {h : qa_M} (w : WF (sg h)) : m_X12_allThings h = some (nn (sumN (mny (sg h)) (gS (sg h))), h) := by
  have e4 : h.1 120 4 = nn (gS (sg h)) := w.s.1
  have l4 := w.s.2
  unfold m_X12_allThings f_X12_allThings_b4_loop
  rw [qbd_e, qbd_e]
  refine qlp_for0 (fun k => (nn (sumN (mny (sg h)) k), nn k, h)) (gS (sg h)) ?_ ?_
  · intro k hk
    have e6 : h.1 126 k = nn (mny (sg h) k) := (w.m hk).1
    show f_X12_allThings_b4 (nn _) (nn k) h = _
    unfold f_X12_allThings_b4
    rw [qck_ok (i := 4) (by decide), show (4 : Int32).toNatClampNeg = 4 from rfl, e4, if_neg (fun q => by rw [nn_le (by omega) (by omega)] at q; omega), qck_nn (by omega) (by omega), nn_cl (by omega), e6, nn_add, qbd_e, qbd_e, nn_add1]
    rfl
  · show f_X12_allThings_b4 (nn _) (nn (gS (sg h))) h = _
    unfold f_X12_allThings_b4
    rw [qck_ok (i := 4) (by decide), show (4 : Int32).toNatClampNeg = 4 from rfl, e4, if_pos ((nn_le (by omega) (by omega)).mpr (Nat.le_refl _)), qup_s]
def aCount (s : Sg) (nl n : Nat) (x : Int32) : Int32 := if x = 0 then s 0 0 else if x = 1 then s 0 1 else if x = 2 then s 0 2 else if x = 3 then s 0 3 else if x = 4 then s 0 4 else if x = 5 then nn (sumN (mny s) (gS s)) else if x = 6 then s 0 5 else if x = 7 then nn nl else if x = 8 then s 0 6 - 1 else if x = 9 then s 0 7 else if x = 10 then nn n else -1
theorem ite_sm {c : Prop} [Decidable c] {a b : Int32} {h : qa_M} {X : Option (Int32 × qa_M)} (e : X = some (b, h)) : (if c then some (a, h) else X) = some ((if c then a else b), h) := by
  by_cases k : c
  · rw [if_pos k, if_pos k]
  · rw [if_neg k, if_neg k, e]
theorem k_aCount {s : Sg} {L : Nat → Lw} {nl : Nat} {B : Nat → Nat} {n : Nat} {I : Nat → Option qa_M} {h : qa_M} {x : Int32} (p : PC s L nl B n I h) : m_X11_count x h = some (aCount s nl n x, h) := by
  obtain ⟨⟨a0, a1, a2, a3, a4, a5⟩, -⟩ := p.rs.1
  obtain ⟨-, b1, -, b3, b4⟩ := p.rs
  unfold m_X11_count aCount
  rw [a0, a1, a2, a3, a4, a5, b1, b3, b4, p.nl, p.tp.1]
  exact ite_sm (ite_sm (ite_sm (ite_sm (ite_sm (ite_sm (ite_sm (ite_sm (ite_sm (ite_sm (ite_sm rfl))))))))))
theorem r_aCount {nl : Nat} {B : Nat → Nat} {n : Nat} {I : Nat → Option qa_M} {h : qa_M} {x : Int32} (i : IvR nl B n I h) : m_X12_count x h = some (aCount (sg h) nl n x, h) := by
  unfold m_X12_count aCount
  rw [r_allThings i.wf, qbn_s, i.nl, i.tp.1, qck_ok (i := 0) (by decide), qck_ok (i := 1) (by decide), qck_ok (i := 2) (by decide), qck_ok (i := 3) (by decide), qck_ok (i := 4) (by decide), qck_ok (i := 5) (by decide), qck_ok (i := 6) (by decide), qck_ok (i := 7) (by decide)]
  exact ite_sm (ite_sm (ite_sm (ite_sm (ite_sm (ite_sm (ite_sm (ite_sm (ite_sm (ite_sm (ite_sm rfl))))))))))
