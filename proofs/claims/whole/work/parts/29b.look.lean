/-! THE CLASS'S LOOK -/
theorem wI_J {h : qa_M} {a k : Nat} {v : Int32} : (qw_I h a k v).2.1 = h.2.1 := rfl
theorem wJ_I {h : qa_M} {a k : Nat} {v : Int64} : (qw_J h a k v).1 = h.1 := rfl
theorem andn_16 {s : Sg} (w : WF s) {x y : Nat} : andn (2 ^ gS s - 1) x < 16 ∧ andn (andn (2 ^ gS s - 1) x) y < 16 := by
  have h1 : 2 ^ gS s ≤ 2 ^ 4 := Nat.pow_le_pow_right (by omega) w.s.2
  have h2 := andn_le (a := 2 ^ gS s - 1) (b := x)
  have h4 := andn_le (a := andn (2 ^ gS s - 1) x) (b := y)
  have h3 : 0 < 2 ^ gS s := Nat.two_pow_pos _
  omega
theorem ls_lt {s : Sg} (w : WF s) : (if nT s = 0 then 0 else srt s (nT s - 1)) < 4 := by
  have l4 := w.s.2
  split
  · omega
  · have := srt_lt (s := s) (show nT s - 1 < nT s by omega)
    omega
theorem bat_36 {s : Sg} {L : Nat → Lw} {S : Nat} {b : List Nat × Int64} (hb : b ∈ batC s L S) : lt36 b.1 ∧ b.1.length = nT s - 1 := by
  rcases bat_mem hb with ⟨c, rfl⟩ | ⟨-, e, l, -⟩
  · exact ⟨trivial, by rw [c]; rfl⟩
  · exact ⟨good_lt e, by omega⟩
theorem k_countViews {s : Sg} {L : Nat → Lw} {S : Nat} {h : qa_M} (w : WF s) (sp : SP s L h) {b : List Nat × Int64} (hb : b ∈ batC s L S) (e15 : h.2.1 22 15 = b.2) (hs : stk (h.1 31) b.1) {nv : Nat} (h0 : h.1 40 0 = nn nv) (hv : nv ≤ 36) {V : Nat → Int64} (hV : ∀ i, i < nv → h.2.1 41 i = V i ∧ ∀ k, 36 ≤ k → tb (V i) k = false) :
    qW (m_X0_countViews (nn (2 ^ gS s - 1)) h) (fun g => ∀ i c, i < nv → c < 16 → g.1 43 (16 * i + c) = h.1 43 (16 * i + c) + nn (tlV s (V i) (flC s b) c)) := by
  have hn := w.n
  have l4 := w.s.2
  have ls := ls_lt w
  obtain ⟨h36, hl⟩ := bat_36 hb
  unfold m_X0_countViews
  rw [e15, bc_spec, qbn_s, qbd_e, k_lastSort w sp, qbn_s, nn_sh1 (by omega), qbd_e, qbd_e]
  unfold f_X0_countViews_b19_loop
  refine qW_for nv (fun k t => ∃ g, t = (nn (2 ^ gS s - 1), nn (bc b.2), nn (2 ^ (if nT s = 0 then 0 else srt s (nT s - 1))), nn k, g) ∧ qfr [(43, 0)] h g ∧ ∀ i c, i < nv → c < 16 → g.1 43 (16 * i + c) = h.1 43 (16 * i + c) + nn (if i < k then tlV s (V i) (flC s b) c else 0)) ?_ ?_ (Nat.zero_le _) ⟨h, rfl, qfr_rf, fun i c _ _ => by rw [if_neg (by omega)]; exact (Int32.add_zero _).symm⟩
  · rintro k t hk ⟨g, rfl, f, hg⟩
    obtain ⟨v1, v2⟩ := hV k hk
    have spg := SP_fr sp f rfl (fun b j h1 h2 => by unfold inW; simp; omega)
    have hsg : stk (g.1 31) b.1 := stk_up hs (fun j _ => (f.1 31 j rfl).1)
    obtain ⟨a1, a2⟩ := andn_16 w (x := sOn s (V k) b.1) (y := 2 ^ (if nT s = 0 then 0 else srt s (nT s - 1)))
    obtain ⟨A, hA⟩ : ∃ A, A = andn (2 ^ gS s - 1) (sOn s (V k) b.1) := ⟨_, rfl⟩
    obtain ⟨B, hB⟩ : ∃ B, B = andn A (2 ^ (if nT s = 0 then 0 else srt s (nT s - 1))) := ⟨_, rfl⟩
    rw [← hA] at a1 a2
    rw [← hB] at a2
    have tv := fun c => tlV_b hb v2 (c := c)
    rw [← hA, ← hB] at tv
    show qW (f_X0_countViews_b19 (nn (2 ^ gS s - 1)) (nn (bc b.2)) (nn (2 ^ (if nT s = 0 then 0 else srt s (nT s - 1)))) (nn k) g) _
    unfold f_X0_countViews_b19
    rw [(f.1 40 0 rfl).1, h0, if_neg (fun q => by rw [nn_le (by omega) (by omega)] at q; omega), qck_nn (by omega) (by omega), nn_cl (by omega), (f.1 22 15 rfl).2.1, e15, (f.1 41 k rfl).2.1, v1, bc_spec, qbn_s, qbd_e, qck_nn (by omega) (by omega), (f.1 41 k rfl).2.1, v1, k_sortsOn w spg hsg h36 hl, qbn_s, nn_adn, ← hA, qbd_e, nn_adn, ← hB, show (16 : Int32) = nn 16 from rfl, nn_mul, nn_add, nn_add, nn_sub (tv 0).2]
    rw [qck_nn (by omega) (by omega), qck_nn (by omega) (by omega), nn_cl (by omega), qbd_e, qck_nn (by omega) (by omega), qck_nn (by omega) (by omega), nn_cl (by omega), qbd_e, qbd_e, nn_add1, qW_some]
    refine ⟨_, rfl, qfr_tr f (qfr_I0 rfl (by simp) (qfr_I0 (a := 43) rfl (by simp) qfr_rf)), fun i c hi hc => ?_⟩
    rw [wI_two, hg i c hi hc, Int32.add_assoc, nn_add]
    congr 2
    by_cases ck : i = k
    · subst ck
      rw [if_neg (show ¬ i < i by omega), if_pos (show i < i + 1 by omega), (tv c).1, Nat.zero_add]
      have j1 : (16 * i + c = i * 16 + A) ↔ c = A := by omega
      have j2 : (16 * i + c = i * 16 + B) ↔ c = B := by omega
      simp only [j1, j2]
    · rw [if_neg (show ¬ 16 * i + c = k * 16 + A by omega), if_neg (show ¬ 16 * i + c = k * 16 + B by omega), Nat.add_zero, Nat.add_zero]
      by_cases d : i < k
      · rw [if_pos d, if_pos (by omega)]
      · rw [if_neg d, if_neg (by omega)]
  · rintro t ⟨g, rfl, f, hg⟩
    show qW (f_X0_countViews_b19 _ _ _ (nn nv) g) _
    unfold f_X0_countViews_b19
    rw [(f.1 40 0 rfl).1, h0, if_pos ((nn_le (by omega) (by omega)).mpr (by omega)), qup_s, qW_some]
    intro i c hi hc
    rw [hg i c hi hc, if_pos hi]
/-! views -/
def VR (D : List (Nat × Int64)) (h : qa_M) : Prop := h.1 40 0 = nn D.length ∧ ∀ i, i < D.length → h.1 42 i = nn (D.getD i (0, 0)).1 ∧ h.2.1 41 i = (D.getD i (0, 0)).2
def opn (s : Sg) (q : Nat) : Bool := thr s q && !isW s q
def vwH (s : Sg) : List (Nat × Int64) := (List.range (gH s)).map (fun i => (i, seesM s (hAt s i) (hFar s i)))
def vwF (s : Sg) (m n : Nat) : List (Nat × Int64) := ((List.range n).filter (opn s)).map (fun q => (q, seesM s q m))
def vws (s : Sg) (m : Nat) : List (Nat × Int64) := if m = 0 then vwH s else vwF s m 36
theorem vwH_len {s : Sg} : (vwH s).length = gH s := by unfold vwH; simp
theorem vwH_at {s : Sg} {i : Nat} (h : i < gH s) : (vwH s).getD i (0, 0) = (i, seesM s (hAt s i) (hFar s i)) := by
  unfold vwH
  simp [List.getD, h]
theorem vwF_t {s : Sg} {m n : Nat} (h : opn s n = true) : vwF s m (n + 1) = vwF s m n ++ [(n, seesM s n m)] := by
  unfold vwF
  rw [List.range_succ, List.filter_append, List.map_append]
  simp [h]
theorem vwF_f {s : Sg} {m n : Nat} (h : opn s n = false) : vwF s m (n + 1) = vwF s m n := by
  unfold vwF
  rw [List.range_succ, List.filter_append, List.map_append]
  simp [h]
theorem vwF_len {s : Sg} {m n : Nat} : (vwF s m n).length ≤ n := by
  unfold vwF
  rw [List.length_map]
  exact Nat.le_trans (List.length_filter_le _ _) (by simp)
theorem vws_len {s : Sg} (w : WF s) {m : Nat} : (vws s m).length ≤ 36 := by
  have := w.h.2
  unfold vws
  split
  · rw [vwH_len]; omega
  · exact vwF_len
theorem sees_hi {s : Sg} {a m k : Nat} (h : 36 ≤ k) : tb (seesM s a m) k = false := by
  unfold seesM
  rw [tb_mkm (by omega), decide_eq_false (by omega)]
  rfl
theorem vws_hi {s : Sg} {m i k : Nat} (h : 36 ≤ k) : tb ((vws s m).getD i (0, 0)).2 k = false := by
  rcases Nat.lt_or_ge i (vws s m).length with hi | hi
  · rw [List.getD_eq_getElem?_getD, List.getElem?_eq_getElem hi, Option.getD_some]
    have hm := List.getElem_mem hi
    revert hm
    generalize (vws s m)[i] = x
    unfold vws vwH vwF
    intro hm
    split at hm
    · obtain ⟨j, -, rfl⟩ := List.mem_map.mp hm
      exact sees_hi h
    · obtain ⟨j, -, rfl⟩ := List.mem_map.mp hm
      exact sees_hi h
  · rw [List.getD_eq_getElem?_getD, List.getElem?_eq_none hi, Option.getD_none]
    exact tb_zero _
theorem VR_fr {W : List (Nat × Nat)} {D : List (Nat × Int64)} {h g : qa_M} (v : VR D h) (f : qfr W h g) (w1 : inW W 40 0 = false) (w2 : ∀ j, inW W 41 j = false) (w3 : ∀ j, inW W 42 j = false) : VR D g := by
  refine ⟨?_, fun i hi => ?_⟩
  · rw [(f.1 40 0 w1).1]; exact v.1
  · rw [(f.1 41 i (w2 i)).2.1, (f.1 42 i (w3 i)).1]; exact v.2 i hi
theorem k_viewHills {s : Sg} {h : qa_M} (w : WF s) (r : RelL 4 s h) : qW (m_X0_viewFromHills h) (VR (vwH s)) := by
  have l8 := w.h.2
  have e2 : h.1 4 2 = nn (gH s) := r.1.2.2.1.trans w.h.1
  unfold m_X0_viewFromHills
  rw [e2, qbd_e, qbd_e]
  unfold f_X0_viewFromHills_b10_loop
  refine qW_for (gH s) (fun k t => ∃ g, t = (nn k, g) ∧ qfr [(40, 1), (41, 0), (42, 0)] h g ∧ g.1 40 0 = nn (gH s) ∧ ∀ i, i < k → g.1 42 i = nn i ∧ g.2.1 41 i = seesM s (hAt s i) (hFar s i)) ?_ ?_ (Nat.zero_le _) ⟨_, rfl, qfr_Ik rfl (by simp) qfr_rf, wI_at, fun i hi => by omega⟩
  · rintro k t hk ⟨g, rfl, f, h0, hi⟩
    show qW (f_X0_viewFromHills_b10 (nn k) g) _
    unfold f_X0_viewFromHills_b10
    rw [h0, if_neg (fun q => by rw [nn_le (by omega) (by omega)] at q; omega), qck_nn (by omega) (by omega), qck_nn (by omega) (by omega), nn_cl (by omega), qbd_e, qck_nn (by omega) (by omega), qbd_e, qbd_e, nn_add1, qW_some, (f.1 7 k rfl).2.1, (r.2.2.1 k hk).2.2]
    refine ⟨_, rfl, qfr_tr f (qfr_I0 rfl (by simp) (qfr_J0 (a := 41) rfl (by simp) qfr_rf)), ?_, fun i hi2 => ?_⟩
    · rw [wI_ne (by omega), wJ_I, h0]
    · by_cases c : i = k
      · subst c
        exact ⟨wI_at, by rw [wI_J]; exact wJ_at⟩
      · rw [wI_ne (by omega), wJ_I, wI_J, wJ_ne (by omega)]
        exact hi i (by omega)
  · rintro t ⟨g, rfl, f, h0, hi⟩
    show qW (f_X0_viewFromHills_b10 (nn (gH s)) g) _
    unfold f_X0_viewFromHills_b10
    rw [h0, if_pos ((nn_le (by omega) (by omega)).mpr (by omega)), qup_s, qW_some]
    refine ⟨by rw [h0, vwH_len], fun i h2 => ?_⟩
    rw [vwH_len] at h2
    rw [vwH_at h2]
    exact hi i h2
theorem k_viewSquares {s : Sg} {h : qa_M} (w : WF s) (r : RelL 4 s h) {m : Nat} (hm : m < 2147483648) : qW (m_X0_viewFromSquares (nn m) h) (VR (vwF s m 36)) := by
  unfold m_X0_viewFromSquares
  rw [qbd_e, qbd_e]
  unfold f_X0_viewFromSquares_b7_loop
  refine qW_for 36 (fun k t => ∃ g, t = (nn m, nn k, g) ∧ qfr [(40, 1), (41, 0), (42, 0)] h g ∧ VR (vwF s m k) g) ?_ ?_ (Nat.zero_le _) ⟨_, rfl, qfr_Ik rfl (by simp) qfr_rf, wI_at, fun i hi => by cases hi⟩
  · rintro k t hk ⟨g, rfl, f, v⟩
    have vl := vwF_len (s := s) (m := m) (n := k)
    have g6 : g.2.1 4 6 = mkm (thr s) 36 := by rw [(f.1 4 6 rfl).2.1]; exact r.2.1.1
    have g7 : g.2.1 4 7 = mkm (isW s) 36 := by rw [(f.1 4 7 rfl).2.1]; exact r.2.1.2
    have ho : tb (mkm (thr s) 36 &&& (mkm (isW s) 36 ^^^ (-1))) k = opn s k := by
      rw [tb_and, tb_not (by omega), tb_mkm (by omega), tb_mkm (by omega), decide_eq_true hk]
      rfl
    show qW (f_X0_viewFromSquares_b7 (nn m) (nn k) g) _
    unfold f_X0_viewFromSquares_b7 f_X0_viewFromSquares_b61 m_X3_open
    rw [if_neg (fun q => by rw [show (36 : Int32) = nn 36 from rfl, nn_le (by omega) (by omega)] at q; omega), g6, g7, qbn_s]
    rcases mb2 (opn s k) with e | e
    · rw [if_neg (by rw [tb_g0 (by omega), ho, e]; decide), k_view g6 g7 hk hm, qbn_s, v.1, qck_nn (by omega) (by omega), nn_cl (by omega), qbd_e, wJ_I, v.1, qck_nn (by omega) (by omega), nn_cl (by omega), qbd_e, wI_ne (by omega), wJ_I, v.1, nn_add1, qbd_e, qbd_e, nn_add1, qW_some]
      refine ⟨_, rfl, qfr_tr f (qfr_Ik rfl (by simp) (qfr_I0 (a := 42) rfl (by simp) (qfr_J0 (a := 41) rfl (by simp) qfr_rf))), ?_, fun i hi => ?_⟩
      · rw [vwF_t e, wI_at, List.length_append]
        rfl
      · rw [vwF_t e, List.length_append] at hi
        have hi : i < (vwF s m k).length + 1 := hi
        rw [vwF_t e, wI_ne (by omega), wI_J, wI_J]
        by_cases c : i = (vwF s m k).length
        · subst c
          rw [wI_at, wJ_at]
          simp [List.getD]
        · rw [wI_ne (by omega), wJ_ne (by omega), wJ_I]
          have := v.2 i (by omega)
          rw [List.getD_eq_getElem?_getD, List.getElem?_append_left (by omega), ← List.getD_eq_getElem?_getD]
          exact this
    · rw [if_pos (by rw [tb_g0 (by omega), ho, e]), qbd_e, nn_add1, qW_some]
      exact ⟨g, rfl, f, by rw [vwF_f e]; exact v⟩
  · rintro t ⟨g, rfl, f, v⟩
    show qW (f_X0_viewFromSquares_b7 (nn m) (nn 36) g) _
    unfold f_X0_viewFromSquares_b7
    rw [if_pos (by decide), qup_s, qW_some]
    exact v
