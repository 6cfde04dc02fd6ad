/-! THE REFERENCE GOES THROUGH THE LAYINGS -/
theorem qW_to {σ β : Type} {b : σ → Option (σ ⊕ β)} {P : β → Prop} (S : Nat → σ) : ∀ (d k : Nat), (∀ j, k ≤ j → j < k + d → b (S j) = some (.inl (S (j + 1)))) → qW (b (S (k + d))) (Sum.elim (fun _ => False) P) → qW (qlp b (S k)) P
  | 0, k, _, h => by
    refine qW_lpin (qW_mono h ?_)
    intro a p
    cases a with
    | inl => exact p.elim
    | inr => exact p
  | d + 1, k, hs, h => by
    rw [qlp_in (hs k (by omega) (by omega))]
    exact qW_to S d (k + 1) (fun j a b => hs j (by omega) (by omega)) (by rw [show k + 1 + d = k + (d + 1) by omega]; exact h)
/-- a loop over a list -/
theorem qW_lst {σ β τ : Type} {b : σ → Option (σ ⊕ β)} {P : β → Prop} (I : List τ → σ → Prop) (step : ∀ x rem s, I (x :: rem) s → qW (b s) (Sum.elim (fun s2 => I rem s2) P)) (last : ∀ s, I [] s → qW (b s) (Sum.elim (fun _ => False) P)) : ∀ rem s, I rem s → qW (qlp b s) P
  | [], s, h => by
    refine qW_lpin (qW_mono (last s h) ?_)
    intro a p
    cases a with
    | inl => exact p.elim
    | inr => exact p
  | x :: rem, s, h => by
    refine qW_lpin (qW_mono (step x rem s h) ?_)
    intro a p
    cases a with
    | inl s2 => exact qW_lst I step last rem s2 p
    | inr => exact p
theorem alF_snoc {p : Nat → Bool} : ∀ {m k : Nat}, alF p k (m + 1) = (alF p k m && p (k + m))
  | 0, k => by simp [alF]
  | m + 1, k => by
    show (p k && alF p (k + 1) (m + 1)) = ((p k && alF p (k + 1) m) && p (k + (m + 1)))
    rw [alF_snoc, Bool.and_assoc, show k + 1 + m = k + (m + 1) by omega]
/-- a row that holds a stack of squares -/
def stk (r : Nat → Int32) : List Nat → Prop
  | [] => True
  | q :: st => r st.length = nn q ∧ stk r st
theorem stk_up {r r2 : Nat → Int32} : ∀ {t : List Nat}, stk r t → (∀ j, j < t.length → r2 j = r j) → stk r2 t
  | [], _, _ => trivial
  | x :: t, h, e => ⟨by rw [e _ (by simp)]; exact h.1, stk_up h.2 (fun j hj => e j (by simp; omega))⟩
def lt36 : List Nat → Prop
  | [] => True
  | q :: st => q < 36 ∧ lt36 st
theorem good_lt {ok : List Nat → Nat → Bool} : ∀ {l : List Nat}, good ok l → lt36 l
  | [], _ => trivial
  | _ :: _, h => ⟨h.1, good_lt h.2.2⟩
def farL (P : Nat → Nat → Bool) : List Nat → Bool
  | [] => true
  | a :: st => farL P st && P st.length a
theorem farL_al {P : Nat → Nat → Bool} {r : Nat → Int32} : ∀ {st : List Nat}, stk r st → lt36 st → alF (fun o => P o (cN (r o))) 0 st.length = farL P st
  | [], _, _ => rfl
  | a :: st, h, l => by
    show alF _ 0 (st.length + 1) = _
    rw [alF_snoc, farL_al h.2 l.2, Nat.zero_add, h.1, cN_nn (by have := l.1; omega)]
    rfl
theorem stk_at {r : Nat → Int32} : ∀ {st : List Nat}, stk r st → lt36 st → ∀ o, o < st.length → ∃ a, a < 36 ∧ r o = nn a
  | [], _, _, o, h => by simp at h
  | a :: st, h, l, o, ho => by
    by_cases c : o = st.length
    · subst c; exact ⟨a, l.1, h.1⟩
    · exact stk_at h.2 l.2 o (by simp at ho; omega)
def farK (s : Sg) (L : Nat → Lw) (st : List Nat) (q : Nat) : Bool := farL (fun o a => decide (frS s L (srt s st.length) (srt s o) ≤ ds a q)) st
def ordK (s : Sg) : List Nat → Nat → Bool
  | [], _ => true
  | a :: st, q => !decide (srt s (st.length + 1) = srt s st.length) || decide (a < q)
def okA (s : Sg) (L : Nat → Lw) (st : List Nat) (q : Nat) : Bool := (tb (alw s L (srt s st.length)) q && farK s L st q) && ordK s st q
theorem frS_le {s : Sg} {L : Nat → Lw} (wl : ∀ k, k + 1 = gL s → WL (L k)) (a b : Nat) : frS s L a b ≤ 5 ∧ 1 ≤ frS s L a b := by
  unfold frS
  by_cases c : gL s = 0
  · rw [if_pos c]; omega
  · rw [if_neg c]
    have wk := wl (gL s - 1) (by omega)
    exact frF_le (fun c hc hB => (inr_nn ((wk.2 c hc).2.1 hB).2 (by omega)).2)
theorem r_mayStand {s : Sg} {L : Nat → Lw} {h : qa_M} (w : WF s) (wl : ∀ k, k + 1 = gL s → WL (L k)) (rp : RP s L h) {st : List Nat} {q : Nat} (hst : stk (h.1 151) st) (hl : lt36 st) (ht : st.length < nT s) (hq : q < 36) :
    m_X12_mayStand (nn st.length) (nn q) h = some (bi (tb (alw s L (srt s st.length)) q && farK s L st q), h) := by
  have hn := w.n
  have l4 := w.s.2
  have hs := srt_lt ht
  obtain ⟨t, hT⟩ : ∃ t, t = st.length := ⟨_, rfl⟩
  have lp : ∀ (m k : Nat) (c : Bool), k + m = t → f_X12_mayStand_b19_loop (nn t) (nn q) (bi c) (nn k) h = some (bi (c && alF (fun o => decide (frS s L (srt s t) (srt s o) ≤ ds (cN (h.1 151 o)) q)) k m), h) := by
    intro m
    induction m with
    | zero =>
      intro k c hk
      unfold f_X12_mayStand_b19_loop
      refine qlp_out ?_
      show f_X12_mayStand_b19 (nn t) (nn q) (bi c) (nn k) h = _
      unfold f_X12_mayStand_b19
      rw [if_pos ((nn_le (by omega) (by omega)).mpr (by omega)), qpr_t bi_01, qup_s]
      simp [alF]
    | succ m ih =>
      intro k c hk
      unfold f_X12_mayStand_b19_loop
      cases c with
      | false =>
        refine qlp_out ?_
        show f_X12_mayStand_b19 (nn t) (nn q) (bi false) (nn k) h = _
        unfold f_X12_mayStand_b19
        rw [if_neg (fun q => by rw [nn_le (by omega) (by omega)] at q; omega), if_pos (by decide), qpr_t bi_01, qup_s]
        rfl
      | true =>
        obtain ⟨a, ha, ea⟩ := stk_at hst hl k (by omega)
        have bd := frS_le wl (srt s t) (srt s k)
        have hd := ds_lt ha hq
        rw [qlp_in (s2 := (nn t, nn q, bi (decide (frS s L (srt s t) (srt s k) ≤ ds a q)), nn (k + 1), h))]
        · have := ih (k + 1) (decide (frS s L (srt s t) (srt s k) ≤ ds a q)) (by omega)
          unfold f_X12_mayStand_b19_loop at this
          rw [this]
          show _ = some (bi (true && (decide (frS s L (srt s t) (srt s k) ≤ ds (cN (h.1 151 k)) q) && _)), h)
          rw [ea, cN_nn (by omega), Bool.true_and]
        · show f_X12_mayStand_b19 (nn t) (nn q) (bi true) (nn k) h = _
          unfold f_X12_mayStand_b19
          rw [if_neg (fun q => by rw [nn_le (by omega) (by omega)] at q; omega), if_neg (by decide), qck_nn (by omega) (by omega), nn_cl (by omega), ea, r_apartOf ha hq, qbn_s, show (4 : Int32) = nn 4 from rfl, nn_mul, nn_add, qck_nn (by omega) (by omega), nn_cl (by omega), rp.2.2.1 t k (by omega) (by omega)]
          unfold f_X12_mayStand_b59
          by_cases c : frS s L (srt s t) (srt s k) ≤ ds a q
          · rw [if_neg (by rw [nn_lt (by omega) (by omega)]; omega), decide_eq_true c, qbd_e, qbd_e, nn_add1]
            rfl
          · rw [if_pos (by rw [nn_lt (by omega) (by omega)]; omega), decide_eq_false c, qbd_e, qbd_e, nn_add1]
            rfl
  unfold m_X12_mayStand
  rw [← hT, qck_nn (by omega) (by omega), nn_cl (by omega), rp.2.1 t (by omega), qck_nn (by rw [hT]; omega) (by omega), nn_cl (by rw [hT]; omega), rp.2.2.2.1 _ (by rw [hT]; exact hs), r_has (by omega), qbn_s]
  simp only [qbd_e]
  have := lp t 0 (tb (alw s L (srt s t)) q) (by omega)
  rw [show (0 : Int32) = nn 0 from rfl, this]
  have e2 := farL_al (P := fun o a => decide (frS s L (srt s t) (srt s o) ≤ ds a q)) hst hl
  rw [← hT] at e2
  rw [e2]
  unfold farK
  rw [← hT]
/-- where the reference stands among the layings -/
def LyS (s : Sg) (L : Nat → Lw) (R : List (List Nat)) (h : qa_M) : Prop :=
  RP s L h ∧ ((h.1 119 49 = 0 ∧ R = lays (okA s L) (nT s) []) ∨ (h.1 119 49 = 1 ∧ ((nT s = 0 ∧ R = []) ∨ ∃ q st, st.length + 1 = nT s ∧ stk (h.1 151) (q :: st) ∧ good (okA s L) (q :: st) ∧ R = Rm (okA s L) (nT s) st (q + 1))))
def mu : List Nat → Nat
  | [] => 0
  | a :: st => (36 - a) * 40 ^ (4 - st.length) + mu st
theorem pow40 {t : Nat} (h : t < 4) : 40 ^ (4 - t) = 40 * 40 ^ (4 - (t + 1)) ∧ 0 < 40 ^ (4 - (t + 1)) := by
  obtain ⟨m, hm⟩ : ∃ m, 4 - t = m + 1 := ⟨3 - t, by omega⟩
  rw [hm, show 4 - (t + 1) = m by omega, Nat.pow_succ, Nat.mul_comm]
  exact ⟨rfl, Nat.pow_pos (by omega)⟩
theorem RP_fr {s : Sg} {L : Nat → Lw} {h g : qa_M} (f : qfr [(119, 50), (151, 0)] h g) (rp : RP s L h) : RP s L g := by
  obtain ⟨a, b, c, d, e⟩ := rp
  refine ⟨?_, fun t ht => ?_, fun x y hx hy => ?_, fun i hi => ?_, fun m hm => ?_⟩
  · rw [(f.1 119 48 rfl).1]; exact a
  · rw [(f.1 152 t rfl).1]; exact b t ht
  · rw [(f.1 153 _ rfl).1]; exact c x y hx hy
  · rw [(f.1 154 i rfl).2.1]; exact d i hi
  · rw [(f.1 155 m rfl).2.1]; exact e m hm
theorem r_laysLoop {s : Sg} {L : Nat → Lw} (w : WF s) (wl : ∀ k, k + 1 = gL s → WL (L k)) (hn0 : 0 < nT s) (R : List (List Nat)) {h0 : qa_M} (rp0 : RP s L h0) (hb : h0.1 119 49 = 1) :
    ∀ (m : Nat) (t : Int32 × qa_M), (qfr [(151, 0)] h0 t.2 ∧ ((t.1 = -1 ∧ R = []) ∨ ∃ st k, t.1 = nn st.length ∧ st.length < nT s ∧ t.2.1 151 st.length + 1 = nn k ∧ stk (t.2.1 151) st ∧ good (okA s L) st ∧ k ≤ 36 ∧ (∀ q, k ≤ q → ordK s st q = true) ∧ R = Rm (okA s L) (nT s) st k ∧ m = mu st + (37 - k) * 40 ^ (4 - st.length))) →
      qW (qlp (fun sz : Int32 × qa_M => f_X12_laysOn_b64 sz.1 sz.2) t) (fun z => qfr [(151, 0)] h0 z.2 ∧ ((z.1 = 0 ∧ R = []) ∨ (z.1 = 1 ∧ ∃ q st, R = (q :: st) :: Rm (okA s L) (nT s) st (q + 1) ∧ st.length + 1 = nT s ∧ stk (z.2.1 151) (q :: st) ∧ good (okA s L) (q :: st)))) := by
  have hn := w.n
  refine qW_lp _ ?_
  rintro m ⟨x, g⟩ ⟨fg, hI⟩
  dsimp only at fg hI ⊢
  have rp : RP s L g := RP_fr (qfr_sub (qsub_c (by simp) qsub_nil) fg) rp0
  unfold f_X12_laysOn_b64
  rcases hI with ⟨rfl, rfl⟩ | ⟨st, k, rfl, hst, hat, hs, hg, hk, hord, rfl, hm⟩
  · rw [if_pos (by decide), qup_s, qW_some]
    exact ⟨fg, .inl ⟨rfl, rfl⟩⟩
  · rw [if_neg (nn_nneg (by omega)), qck_nn (by omega) (by omega), nn_cl (by omega), hat, qbd_e]
    have hl36 := good_lt hg
    have stepf : ∀ j, k ≤ j → j < 36 → okA s L st j = false → f_X12_laysOn_b77 (nn st.length) (nn j) g = some (.inl (nn st.length, nn (j + 1), g)) := by
      intro j h1 h2 h3
      unfold okA at h3
      rw [hord j h1, Bool.and_true] at h3
      unfold f_X12_laysOn_b77
      rw [if_neg (fun q => by rw [show (36 : Int32) = nn 36 from rfl, nn_le (by omega) (by omega)] at q; omega), r_mayStand w wl rp hs hl36 hst h2, qbn_s, h3, if_pos (by decide), qbd_e, nn_add1]
    obtain ⟨p1, p2⟩ := pow40 (show st.length < 4 by omega)
    unfold f_X12_laysOn_b77_loop
    rcases cand_cases (okA s L) st k with ⟨q, c1, c2, c3, c4⟩ | c
    · have := qW_to (b := fun sz : Int32 × Int32 × qa_M => f_X12_laysOn_b77 sz.1 sz.2.1 sz.2.2) (P := Sum.elim (fun s2 : Int32 × qa_M => ∃ m', m' < m ∧ (qfr [(151, 0)] h0 s2.2 ∧ ((s2.1 = -1 ∧ Rm (okA s L) (nT s) st k = []) ∨ ∃ st2 k2, s2.1 = nn st2.length ∧ st2.length < nT s ∧ s2.2.1 151 st2.length + 1 = nn k2 ∧ stk (s2.2.1 151) st2 ∧ good (okA s L) st2 ∧ k2 ≤ 36 ∧ (∀ q, k2 ≤ q → ordK s st2 q = true) ∧ Rm (okA s L) (nT s) st k = Rm (okA s L) (nT s) st2 k2 ∧ m' = mu st2 + (37 - k2) * 40 ^ (4 - st2.length)))) (fun z : Int32 × qa_M => qfr [(151, 0)] h0 z.2 ∧ ((z.1 = 0 ∧ Rm (okA s L) (nT s) st k = []) ∨ (z.1 = 1 ∧ ∃ q st2, Rm (okA s L) (nT s) st k = (q :: st2) :: Rm (okA s L) (nT s) st2 (q + 1) ∧ st2.length + 1 = nT s ∧ stk (z.2.1 151) (q :: st2) ∧ good (okA s L) (q :: st2))))) (fun j => (nn st.length, nn j, g)) (q - k) k (fun j h1 h2 => stepf j h1 (by omega) (c4 j h1 (by omega))) ?_
      · exact this
      · rw [show k + (q - k) = q by omega]
        show qW (f_X12_laysOn_b77 (nn st.length) (nn q) g) _
        have c3' := c3
        unfold okA at c3'
        rw [hord q c1, Bool.and_true] at c3'
        unfold f_X12_laysOn_b77
        rw [if_neg (fun q => by rw [show (36 : Int32) = nn 36 from rfl, nn_le (by omega) (by omega)] at q; omega), r_mayStand w wl rp hs hl36 hst c2, qbn_s, c3', if_neg (by decide), qW_up]
        unfold f_X12_laysOn_b98
        rw [qck_nn (by omega) (by omega), nn_cl (by omega)]
        simp only [qbd_x]
        rw [if_neg (by rw [show (36 : Int32) = nn 36 from rfl, nn_eq (by omega) (by omega)]; omega), wI_ne (by omega), rp.1, nn_sub1 (by omega)]
        have hs2 : stk ((qw_I g 151 st.length (nn q)).1 151) (q :: st) := ⟨wI_at, stk_up hs (fun j hj => wI_ne (by omega))⟩
        have f2 : qfr [(151, 0)] h0 (qw_I g 151 st.length (nn q)) := qfr_I0 rfl (by simp) fg
        by_cases ce : st.length + 1 = nT s
        · rw [if_pos (by rw [nn_eq (by omega) (by omega)]; omega), qup_s, qW_some]
          refine ⟨f2, .inr ⟨rfl, q, st, ?_, ce, hs2, c2, c3, hg⟩⟩
          rw [Rm_skip c1 c4, Rm_leaf c2 c3 ce]
        · rw [if_neg (by rw [nn_eq (by omega) (by omega)]; omega), nn_add1, qck_nn (by omega) (by omega), nn_sub1 (by omega), Nat.add_sub_cancel, qck_nn (by omega) (by omega), nn_cl (by omega), nn_cl (by omega), wI_ne (by omega), wI_ne (by omega), rp.2.1 _ (by omega), rp.2.1 _ (by omega), qck_nn (by omega) (by omega), wI_at]
          have l1 := srt_lt (s := s) (show st.length + 1 < nT s by omega)
          have l2 := srt_lt (s := s) (show st.length < nT s by omega)
          have l4 := w.s.2
          have fin : ∀ (v : Int32) (k2 : Nat), v + 1 = nn k2 → k2 ≤ 36 → (∀ x, k2 ≤ x → ordK s (q :: st) x = true) → (∀ j, j < k2 → okA s L (q :: st) j = false) → qW (f_X12_laysOn_b166 (nn (st.length + 1)) (nn (st.length + 1)) v (qw_I g 151 st.length (nn q))) (Sum.elim (fun s2 : Int32 × qa_M => ∃ m', m' < m ∧ (qfr [(151, 0)] h0 s2.2 ∧ ((s2.1 = -1 ∧ Rm (okA s L) (nT s) st k = []) ∨ ∃ st2 k2, s2.1 = nn st2.length ∧ st2.length < nT s ∧ s2.2.1 151 st2.length + 1 = nn k2 ∧ stk (s2.2.1 151) st2 ∧ good (okA s L) st2 ∧ k2 ≤ 36 ∧ (∀ q, k2 ≤ q → ordK s st2 q = true) ∧ Rm (okA s L) (nT s) st k = Rm (okA s L) (nT s) st2 k2 ∧ m' = mu st2 + (37 - k2) * 40 ^ (4 - st2.length)))) (fun z : Int32 × qa_M => qfr [(151, 0)] h0 z.2 ∧ ((z.1 = 0 ∧ Rm (okA s L) (nT s) st k = []) ∨ (z.1 = 1 ∧ ∃ q st2, Rm (okA s L) (nT s) st k = (q :: st2) :: Rm (okA s L) (nT s) st2 (q + 1) ∧ st2.length + 1 = nT s ∧ stk (z.2.1 151) (q :: st2) ∧ good (okA s L) (q :: st2))))) := by
            intro v k2 e1 e2 e3 e4
            unfold f_X12_laysOn_b166 f_X12_laysOn_b167
            rw [qck_nn (by omega) (by omega), nn_cl (by omega), qbd_e, qW_some]
            refine ⟨mu (q :: st) + (37 - k2) * 40 ^ (4 - (q :: st).length), ?_, qfr_I0 rfl (by simp) f2, .inr ⟨q :: st, k2, rfl, by show st.length + 1 < nT s; omega, ?_, ?_, ⟨c2, c3, hg⟩, e2, e3, ?_, rfl⟩⟩
            · show (36 - q) * 40 ^ (4 - st.length) + mu st + (37 - k2) * 40 ^ (4 - (st.length + 1)) < m
              rw [hm, p1]
              have : (37 - k2) * 40 ^ (4 - (st.length + 1)) ≤ 37 * 40 ^ (4 - (st.length + 1)) := Nat.mul_le_mul_right _ (by omega)
              have : (36 - q + 1) * (40 * 40 ^ (4 - (st.length + 1))) ≤ (37 - k) * (40 * 40 ^ (4 - (st.length + 1))) := Nat.mul_le_mul_right _ (by omega)
              rw [Nat.add_mul] at this
              omega
            · show (qw_I (qw_I g 151 st.length (nn q)) 151 (st.length + 1) v).1 151 (st.length + 1) + 1 = _
              rw [wI_at]
              exact e1
            · exact stk_up hs2 (fun j hj => wI_ne (by simp at hj; omega))
            · rw [Rm_skip c1 c4, Rm_push c2 c3 (by omega) e4]
          by_cases cs : srt s (st.length + 1) = srt s st.length
          · rw [if_pos (by rw [cs])]
            refine fin (nn q) (q + 1) (nn_add1 q) (by omega) (fun x hx => ?_) (fun j hj => ?_)
            · show (!decide (srt s (st.length + 1) = srt s st.length) || decide (q < x)) = true
              rw [decide_eq_true (show q < x by omega), Bool.or_true]
            · unfold okA
              have : ordK s (q :: st) j = false := by
                show (!decide (srt s (st.length + 1) = srt s st.length) || decide (q < j)) = false
                rw [decide_eq_true cs, decide_eq_false (by omega)]
                rfl
              rw [this, Bool.and_false]
          · rw [if_neg (by rw [nn_eq (by omega) (by omega)]; exact cs)]
            refine fin (-1) 0 (by decide) (by omega) (fun x hx => ?_) (fun j hj => by omega)
            show (!decide (srt s (st.length + 1) = srt s st.length) || decide (q < x)) = true
            rw [decide_eq_false cs]
            rfl
    · have := qW_to (b := fun sz : Int32 × Int32 × qa_M => f_X12_laysOn_b77 sz.1 sz.2.1 sz.2.2) (P := Sum.elim (fun s2 : Int32 × qa_M => ∃ m', m' < m ∧ (qfr [(151, 0)] h0 s2.2 ∧ ((s2.1 = -1 ∧ Rm (okA s L) (nT s) st k = []) ∨ ∃ st2 k2, s2.1 = nn st2.length ∧ st2.length < nT s ∧ s2.2.1 151 st2.length + 1 = nn k2 ∧ stk (s2.2.1 151) st2 ∧ good (okA s L) st2 ∧ k2 ≤ 36 ∧ (∀ q, k2 ≤ q → ordK s st2 q = true) ∧ Rm (okA s L) (nT s) st k = Rm (okA s L) (nT s) st2 k2 ∧ m' = mu st2 + (37 - k2) * 40 ^ (4 - st2.length)))) (fun z : Int32 × qa_M => qfr [(151, 0)] h0 z.2 ∧ ((z.1 = 0 ∧ Rm (okA s L) (nT s) st k = []) ∨ (z.1 = 1 ∧ ∃ q st2, Rm (okA s L) (nT s) st k = (q :: st2) :: Rm (okA s L) (nT s) st2 (q + 1) ∧ st2.length + 1 = nT s ∧ stk (z.2.1 151) (q :: st2) ∧ good (okA s L) (q :: st2))))) (fun j => (nn st.length, nn j, g)) (36 - k) k (fun j h1 h2 => stepf j h1 (by omega) (c j h1 (by omega))) ?_
      · exact this
      · rw [show k + (36 - k) = 36 by omega]
        show qW (f_X12_laysOn_b77 (nn st.length) (nn 36) g) _
        unfold f_X12_laysOn_b77
        rw [if_pos (by decide), qW_up]
        unfold f_X12_laysOn_b98 f_X12_laysOn_b167
        rw [qck_nn (by omega) (by omega), nn_cl (by omega)]
        simp only [qbd_x]
        rw [if_pos (by decide), qW_some]
        have f2 : qfr [(151, 0)] h0 (qw_I g 151 st.length (nn 36)) := qfr_I0 rfl (by simp) fg
        have hpos : 0 < (37 - k) * 40 ^ (4 - st.length) := Nat.mul_pos (by omega) (Nat.pow_pos (by omega))
        cases st with
        | nil =>
          refine ⟨0, by rw [hm]; simp [mu] at hpos ⊢; omega, f2, .inl ⟨show nn 0 + (-1) = -1 by decide, ?_⟩⟩
          rw [Rm_skip (q := 36) hk (fun j h1 h2 => c j h1 h2), Rm_end]
        | cons a st =>
          refine ⟨mu st + (37 - (a + 1)) * 40 ^ (4 - st.length), ?_, f2, .inr ⟨st, a + 1, ?_, by simp at hst; omega, ?_, ?_, hg.2.2, by have := hg.1; omega, ?_, ?_, rfl⟩⟩
          · rw [hm]
            show _ < (36 - a) * 40 ^ (4 - st.length) + mu st + _
            rw [show 37 - (a + 1) = 36 - a by omega]
            simp at hpos ⊢
            omega
          · show nn (st.length + 1) + (-1) = nn st.length
            exact nn_sb1
          · show (qw_I g 151 (st.length + 1) (nn 36)).1 151 st.length + 1 = nn (a + 1)
            rw [wI_ne (by omega), hs.1, nn_add1]
          · exact stk_up hs.2 (fun j hj => wI_ne (by simp; omega))
          · intro q hq
            have ho : ordK s st a = true := by
              have := hg.2.1
              unfold okA at this
              rw [Bool.and_eq_true] at this
              exact this.2
            cases st with
            | nil => rfl
            | cons b st =>
              show (!decide (srt s (st.length + 1) = srt s st.length) || decide (b < q)) = true
              have ho : (!decide (srt s (st.length + 1) = srt s st.length) || decide (b < a)) = true := ho
              rw [Bool.or_eq_true, decide_eq_true_eq] at ho ⊢
              rcases ho with ho | ho
              · exact .inl ho
              · exact .inr (by omega)
          · rw [Rm_skip (q := 36) hk (fun j h1 h2 => c j h1 h2), Rm_pop]
theorem r_laysOn {s : Sg} {L : Nat → Lw} {h : qa_M} (w : WF s) (wl : ∀ k, k + 1 = gL s → WL (L k)) {R : List (List Nat)} (ls : LyS s L R h) :
    qW (m_X12_laysOn h) (fun z => (z.1 = 0 ∧ R = []) ∨ (z.1 = 1 ∧ ∃ l R2, R = l :: R2 ∧ LyS s L R2 z.2 ∧ l.length = nT s ∧ stk (z.2.1 151) l ∧ good (okA s L) l)) := by
  obtain ⟨rp, hR⟩ := ls
  have hn := w.n
  unfold m_X12_laysOn
  rw [rp.1]
  rcases Nat.eq_zero_or_pos (nT s) with z | z
  · rw [z, if_pos (by decide)]
    unfold f_X12_laysOn_b19
    have rp2 : RP s L (qw_I h 119 49 1) := RP_fr (qfr_Ik rfl (by simp) qfr_rf) rp
    rcases hR with ⟨b, rfl⟩ | ⟨b, ⟨-, rfl⟩ | ⟨q, st, e, -⟩⟩
    · rw [if_pos b, qbd_e, qbd_e, qpr_t (.inr rfl), qW_some]
      refine .inr ⟨rfl, [], [], ?_, ⟨rp2, .inr ⟨wI_at, .inl ⟨z, rfl⟩⟩⟩, rfl, trivial, trivial⟩
      rw [z]; rfl
    · rw [if_neg (by rw [b]; decide), qbd_e, qbd_e, qpr_t (.inl rfl), qW_some]
      exact .inl ⟨rfl, rfl⟩
    · omega
  · rw [if_neg (by rw [show (0 : Int32) = nn 0 from rfl, nn_eq (by omega) (by omega)]; omega)]
    have post : ∀ {h1 : qa_M}, RP s L h1 → h1.1 119 49 = 1 → ∀ {x : Option (Int32 × qa_M)}, qW x (fun z => qfr [(151, 0)] h1 z.2 ∧ ((z.1 = 0 ∧ R = []) ∨ (z.1 = 1 ∧ ∃ q st, R = (q :: st) :: Rm (okA s L) (nT s) st (q + 1) ∧ st.length + 1 = nT s ∧ stk (z.2.1 151) (q :: st) ∧ good (okA s L) (q :: st)))) → qW x (fun z => (z.1 = 0 ∧ R = []) ∨ (z.1 = 1 ∧ ∃ l R2, R = l :: R2 ∧ LyS s L R2 z.2 ∧ l.length = nT s ∧ stk (z.2.1 151) l ∧ good (okA s L) l)) := by
      intro h1 r1 b1 x hx
      refine qW_mono hx ?_
      rintro ⟨v, g⟩ ⟨fg, a | ⟨a, q, st, e1, e2, e3, e4⟩⟩
      · exact .inl a
      · refine .inr ⟨a, q :: st, _, e1, ⟨RP_fr (qfr_sub (qsub_c (by simp) qsub_nil) fg) r1, .inr ⟨?_, .inr ⟨q, st, e2, e3, e4, rfl⟩⟩⟩, e2, e3, e4⟩
        rw [(fg.1 119 49 rfl).1]; exact b1
    rcases hR with ⟨b, rfl⟩ | ⟨b, ⟨e, -⟩ | ⟨q, st, e, hs, hg, rfl⟩⟩
    · rw [if_pos b]
      unfold f_X12_laysOn_b44 f_X12_laysOn_b59
      rw [qbd_e, if_pos b]
      simp (disch := first | omega | decide) only [qbn_x, qbv_x, qup_x, qbd_x, qck_nn, qck_ok, nn_cl, nn_add1, lx0, lx1, lx2, lx3, lx4, lx5, lx6, lx7, lx8, lx9, lx10, bi_e0, bi_e1]
      have rp2 : RP s L (qw_I (qw_I h 151 0 (-1)) 119 49 1) := RP_fr (qfr_Ik rfl (by simp) (qfr_I0 (a := 151) rfl (by simp) qfr_rf)) rp
      refine post rp2 wI_at (r_laysLoop w wl z _ rp2 wI_at _ (0, _) ⟨qfr_rf, .inr ⟨[], 0, rfl, z, ?_, trivial, trivial, by omega, fun _ _ => rfl, ?_, rfl⟩⟩)
      · show (qw_I (qw_I h 151 0 (-1)) 119 49 1).1 151 0 + 1 = nn 0
        rw [wI_ne (by omega), wI_at]
        rfl
      · obtain ⟨m, hm⟩ : ∃ m, nT s = m + 1 := ⟨nT s - 1, by omega⟩
        rw [hm]
        rfl
    · omega
    · rw [if_neg (by rw [b]; decide), nn_sub1 (by omega)]
      unfold f_X12_laysOn_b44 f_X12_laysOn_b59
      rw [qbd_e, if_neg (by rw [b]; decide), qbd_e]
      have rp2 : RP s L (qw_I h 119 49 1) := RP_fr (qfr_Ik rfl (by simp) qfr_rf) rp
      refine post rp2 wI_at (r_laysLoop w wl z _ rp2 wI_at _ (nn (nT s - 1), _) ⟨qfr_rf, .inr ⟨st, q + 1, ?_, by omega, ?_, ?_, hg.2.2, hg.1, ?_, rfl, rfl⟩⟩)
      · show nn (nT s - 1) = nn st.length
        congr 1
        omega
      · show (qw_I h 119 49 1).1 151 st.length + 1 = _
        rw [wI_ne (by omega), hs.1, nn_add1]
      · exact stk_up hs.2 (fun j _ => wI_ne (by omega))
      · intro x hx
        have ho : ordK s st q = true := by
          have := hg.2.1
          unfold okA at this
          rw [Bool.and_eq_true] at this
          exact this.2
        cases st with
        | nil => rfl
        | cons b st =>
          show (!decide (srt s (st.length + 1) = srt s st.length) || decide (b < x)) = true
          have ho : (!decide (srt s (st.length + 1) = srt s st.length) || decide (b < q)) = true := ho
          rw [Bool.or_eq_true, decide_eq_true_eq] at ho ⊢
          rcases ho with ho | ho
          · exact .inl ho
          · exact .inr (by omega)
