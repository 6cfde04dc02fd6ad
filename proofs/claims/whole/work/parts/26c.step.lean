/-! THE CLASS'S SEARCH: its steps -/
theorem cnt_ltj {j n : Nat} (h : j ≤ n) : cnt (fun k => decide (k < j)) n = j := by
  rw [cnt_cut (p := fun k => decide (k < j)) (i := j) (fun k hk => decide_eq_true hk) (fun k hk => decide_eq_false (by omega)) n h]
theorem k_lowest {x : Int64} {j : Nat} {h : qa_M} (hj : tb x j = true) (hl : ∀ k, k < j → tb x k = false) : m_X2_lowest x h = some (nn j, h) := by
  have h64 : j < 64 := by
    rcases Nat.lt_or_ge j 64 with q | q
    · exact q
    · rw [tb_ge q] at hj; cases hj
  unfold m_X2_lowest
  rw [bc_spec, qbn_s]
  congr 3
  unfold bc
  rw [cnt_range, cnt_congr (q := fun k => decide (k < j)) (fun k _ => tb_below hj hl k), cnt_ltj (by omega)]
theorem good_B {s : Sg} {L : Nat → Lw} {S : Nat} : ∀ {st : List Nat}, good (okB s L S) st → good (okA s L) st
  | [], _ => trivial
  | q :: st, h => ⟨h.1, by have := h.2.1; unfold okB at this; rw [Bool.and_eq_true] at this; exact this.1, good_B h.2.2⟩
def lfs (ok : List Nat → Nat → Bool) (r : Nat → Int64) : List Nat → Prop
  | [] => True
  | a :: st => r st.length = mkm (fun q => decide (a + 1 ≤ q) && ok st q) 36 ∧ lfs ok r st
theorem lfs_up {ok : List Nat → Nat → Bool} {r r2 : Nat → Int64} : ∀ {st : List Nat}, lfs ok r st → (∀ j, j < st.length → r2 j = r j) → lfs ok r2 st
  | [], _, _ => trivial
  | a :: st, h, e => ⟨by rw [e _ (by simp)]; exact h.1, lfs_up h.2 (fun j hj => e j (by simp; omega))⟩
/-- where the class's search stands -/
def BS (s : Sg) (L : Nat → Lw) (S : Nat) (B : List (List Nat × Int64)) (h : qa_M) : Prop :=
  NearT h ∧ SP s L h ∧ NSp s L S h ∧ (if nT s < 2 then B = (if h.2.1 32 0 = 0 then [] else [([], h.2.1 32 0)]) else
    (h.1 22 12 = -1 ∧ B = []) ∨ ∃ st k, h.1 22 12 = nn st.length ∧ st.length + 2 ≤ nT s ∧ stk (h.1 31) st ∧ good (okB s L S) st ∧ k ≤ 36 ∧ h.2.1 32 st.length = mkm (fun q => decide (k ≤ q) && okB s L S st q) 36 ∧ lfs (okB s L S) (h.2.1 32) st ∧ B = Bm (okB s L S) (nT s) st k)
def mu2 : List Nat → Nat
  | [] => 0
  | a :: st => (36 - a) * 38 ^ (2 - st.length) + mu2 st
theorem mu2_le {k : Nat} : ∀ {st : List Nat}, st.length ≤ 2 → mu2 st + (37 - k) * 38 ^ (2 - st.length) ≤ 60000
  | [], _ => by simp [mu2]; omega
  | [a], _ => by simp [mu2]; omega
  | [a, b], _ => by simp [mu2]; omega
  | _ :: _ :: _ :: _, h => by simp at h
theorem pow38 {t : Nat} (h : t < 2) : 38 ^ (2 - t) = 38 * 38 ^ (2 - (t + 1)) ∧ 0 < 38 ^ (2 - (t + 1)) := by
  obtain ⟨m, hm⟩ : ∃ m, 2 - t = m + 1 := ⟨1 - t, by omega⟩
  rw [hm, show 2 - (t + 1) = m by omega, Nat.pow_succ, Nat.mul_comm]
  exact ⟨rfl, Nat.pow_pos (by omega)⟩
theorem NSp_fr {W : List (Nat × Nat)} {s : Sg} {L : Nat → Lw} {S : Nat} {h g : qa_M} (n : NSp s L S h) (f : qfr W h g) (h0 : inW W 22 8 = false) (h1 : ∀ b j, 27 ≤ b → b ≤ 30 → inW W b j = false) : NSp s L S g := by
  obtain ⟨a, b, c⟩ := n
  refine ⟨?_, fun m hm hp => ?_, fun i hi => ?_⟩
  · rw [(f.1 22 8 h0).1]; exact a
  · rw [(f.1 28 _ (h1 _ _ (by omega) (by omega))).2.1, (f.1 29 _ (h1 _ _ (by omega) (by omega))).1, (f.1 30 _ (h1 _ _ (by omega) (by omega))).1]
    exact b m hm hp
  · rw [(f.1 27 i (h1 _ _ (by omega) (by omega))).2.1]; exact c i hi
theorem k_step {s : Sg} {L : Nat → Lw} {S : Nat} {h : qa_M} (w : WF s) (wl : ∀ k, k + 1 = gL s → WL (L k)) {B : List (List Nat × Int64)} (bs : BS s L S B h) :
    qW (m_X7_step h) (fun z => (z.1 = 0 ∧ B = []) ∨ (z.1 = 1 ∧ ∃ b B2, B = b :: B2 ∧ BS s L S B2 z.2 ∧ z.2.2.1 22 15 = b.2 ∧ stk (z.2.1 31) b.1)) := by
  obtain ⟨nt, sp, np, hB⟩ := bs
  have hn := w.n
  unfold m_X7_step
  rw [sp.1]
  by_cases c2 : nT s < 2
  · rw [if_pos c2] at hB
    rw [if_neg (by rw [show (2 : Int32) = nn 2 from rfl, nn_le (by omega) (by omega)]; omega)]
    simp (disch := first | omega | decide) only [qbn_x, qbv_x, qup_x, qbd_x, qck_nn, qck_ok, nn_cl, nn_add1, lx0, lx1, lx2, lx3, lx4, lx5, lx6, lx7, lx8, lx9, lx10, bi_e0, bi_e1]
    obtain ⟨H, hH⟩ : ∃ H, H = qw_J (qw_J h 22 15 (h.2.1 32 0)) 32 0 0 := ⟨_, rfl⟩
    rw [← hH]
    have fH : qfr [(22, 16), (32, 0)] h H := by rw [hH]; exact qfr_J0 rfl (by simp) (qfr_Jk rfl (by simp) qfr_rf)
    have e15 : H.2.1 22 15 = h.2.1 32 0 := by rw [hH, wJ_ne (by omega), wJ_at]
    have e32 : H.2.1 32 0 = 0 := by rw [hH, wJ_at]
    rw [e15]
    by_cases c0 : h.2.1 32 0 = 0
    · rw [if_pos c0, qW_some]
      rw [if_pos c0] at hB
      exact .inl ⟨rfl, hB⟩
    · rw [if_neg c0, qW_some]
      rw [if_neg c0] at hB
      refine .inr ⟨rfl, _, _, hB, ⟨Near_fr nt fH (fun j => rfl), SP_fr sp fH rfl (fun b j h1 h2 => by unfold inW; simp; omega), NSp_fr np fH rfl (fun b j h1 h2 => by unfold inW; simp; omega), ?_⟩, e15, trivial⟩
      rw [if_pos c2, if_pos e32]
  · rw [if_neg c2] at hB
    rw [if_pos (by rw [show (2 : Int32) = nn 2 from rfl, nn_le (by omega) (by omega)]; omega), qbd_e]
    unfold f_X7_step_b42_loop
    have main : ∀ (n : Nat) (t : Int32 × qa_M), ((∃ i, t.1 = nn i ∧ i + n ≤ 60001) ∧ qfr [(22, 13), (22, 16), (31, 0), (32, 0)] h t.2 ∧ ((t.2.1 22 12 = -1 ∧ B = []) ∨ ∃ st k, t.2.1 22 12 = nn st.length ∧ st.length + 2 ≤ nT s ∧ stk (t.2.1 31) st ∧ good (okB s L S) st ∧ k ≤ 36 ∧ t.2.2.1 32 st.length = mkm (fun q => decide (k ≤ q) && okB s L S st q) 36 ∧ lfs (okB s L S) (t.2.2.1 32) st ∧ B = Bm (okB s L S) (nT s) st k ∧ n = mu2 st + (37 - k) * 38 ^ (2 - st.length))) →
        qW (qlp (fun sz : Int32 × qa_M => f_X7_step_b42 sz.1 sz.2) t) (fun z => (z.1 = 0 ∧ B = []) ∨ (z.1 = 1 ∧ ∃ b B2, B = b :: B2 ∧ BS s L S B2 z.2 ∧ z.2.2.1 22 15 = b.2 ∧ stk (z.2.1 31) b.1)) := by
      refine qW_lp _ ?_
      rintro n ⟨x, g⟩ ⟨⟨i, hi, hin⟩, fg, hI⟩
      dsimp only at hi fg hI ⊢
      subst hi
      unfold f_X7_step_b42
      have n2m : ¬ ((2000000 : Int32) ≤ nn i) := by
        rw [show (2000000 : Int32) = nn 2000000 from rfl, nn_le (by omega) (by omega)]
        omega
      rw [if_neg n2m]
      rcases hI with ⟨e12, rfl⟩ | ⟨st, k, e12, hl, hs, hg, hk, e32, hlf, rfl, hm⟩
      · rw [e12, if_pos (by decide), qup_s, qW_some]
        exact .inl ⟨rfl, rfl⟩
      · have sp2 : SP s L g := SP_fr sp fg rfl (fun b j h1 h2 => by unfold inW; simp; omega)
        have nt2 : NearT g := Near_fr nt fg (fun j => rfl)
        have np2 : NSp s L S g := NSp_fr np fg rfl (fun b j h1 h2 => by unfold inW; simp; omega)
        rw [e12, if_neg (nn_nneg (by omega)), qck_nn (by omega) (by omega), nn_cl (by omega), e32, qbd_e]
        have hpow : 0 < 38 ^ (2 - st.length) := Nat.pow_pos (by omega)
        have hpos : 1 ≤ (37 - k) * 38 ^ (2 - st.length) := Nat.mul_pos (by omega) hpow
        rcases cand_cases (okB s L S) st k with ⟨q, c1, c2', c3, c4⟩ | c
        · have t1 : tb (mkm (fun q => decide (k ≤ q) && okB s L S st q) 36) q = true := by
            rw [tb_mkm (by omega), decide_eq_true c2', decide_eq_true c1, c3]; rfl
          have t2 : ∀ j, j < q → tb (mkm (fun q => decide (k ≤ q) && okB s L S st q) 36) j = false := by
            intro j hj
            rw [tb_mkm (by omega)]
            by_cases d : k ≤ j
            · rw [c4 j d hj, Bool.and_false, Bool.and_false]
            · rw [decide_eq_false d]; simp
          have x0 : ¬ (mkm (fun q => decide (k ≤ q) && okB s L S st q) 36 = 0) := by
            intro e
            rw [e, tb_zero] at t1
            cases t1
          rw [if_neg x0, k_lowest t1 t2, qbn_s, qck_nn (by omega) (by omega)]
          simp only [qbd_x]
          rw [wI_ne (show ¬ ((22 : Nat) = 31 ∧ 12 = st.length) by omega), e12, qck_nn (by omega) (by omega), nn_cl (by omega)]
          have nxt : mkm (fun q => decide (k ≤ q) && okB s L S st q) 36 &&& (mkm (fun q => decide (k ≤ q) && okB s L S st q) 36 - 1) = mkm (fun x => decide (q + 1 ≤ x) && okB s L S st x) 36 := by
            refine mkm_of (by omega) (fun j hj => ?_)
            rw [tb_next t1 t2, tb_mkm (by omega)]
            rcases Nat.lt_or_ge j 36 with h36 | h36
            · rw [decide_eq_true h36, Bool.true_and, Bool.true_and]
              by_cases d : q + 1 ≤ j
              · rw [decide_eq_true (show k ≤ j by omega), decide_eq_true d, decide_eq_true (show j ≠ q by omega), Bool.and_true]
              · rw [decide_eq_false d, Bool.false_and]
                by_cases d2 : j = q
                · rw [decide_eq_false (show ¬ j ≠ q from fun z => z d2), Bool.and_false]
                · by_cases d3 : k ≤ j
                  · rw [c4 j d3 (by omega)]; simp
                  · rw [decide_eq_false d3]; rfl
            · rw [decide_eq_false (by omega)]; rfl
          rw [nxt]
          obtain ⟨H, hH⟩ : ∃ H, H = qw_J (qw_I g 31 st.length (nn q)) 32 st.length (mkm (fun x => decide (q + 1 ≤ x) && okB s L S st x) 36) := ⟨_, rfl⟩
          rw [← hH]
          have fgH : qfr [(22, 13), (22, 16), (31, 0), (32, 0)] g H := by rw [hH]; exact qfr_J0 rfl (by simp) (qfr_I0 (a := 31) rfl (by simp) qfr_rf)
          have fH : qfr [(22, 13), (22, 16), (31, 0), (32, 0)] h H := qfr_tr fg fgH
          have spH : SP s L H := SP_fr sp fH rfl (fun b j h1 h2 => by unfold inW; simp; omega)
          have ntH : NearT H := Near_fr nt fH (fun j => rfl)
          have npH : NSp s L S H := NSp_fr np fH rfl (fun b j h1 h2 => by unfold inW; simp; omega)
          have H12 : H.1 22 12 = nn st.length := by
            rw [hH]
            show (qw_I g 31 st.length (nn q)).1 22 12 = _
            rw [wI_ne (by omega)]
            exact e12
          have Hs : stk (H.1 31) (q :: st) := by
            rw [hH]
            exact ⟨wI_at, stk_up hs (fun j hj => wI_ne (by omega))⟩
          have H32 : H.2.1 32 st.length = mkm (fun x => decide (q + 1 ≤ x) && okB s L S st x) 36 := by rw [hH]; exact wJ_at
          have Hl : lfs (okB s L S) (H.2.1 32) st := by
            rw [hH]
            exact lfs_up hlf (fun j hj => by rw [wJ_ne (by omega)]; rfl)
          have gq : good (okB s L S) (q :: st) := ⟨c2', c3, hg⟩
          have kr := k_room (S := S) w wl ntH spH npH Hs (good_B gq) (show (q :: st).length < nT s by show st.length + 1 < nT s; omega)
          rw [H12, nn_add1, show nn (st.length + 1) = nn (q :: st).length from rfl, kr, qbn_s]
          have go_on : ∀ B2, Bm (okB s L S) (nT s) st k = B2 → B2 = Bm (okB s L S) (nT s) st (q + 1) → qW (f_X7_step_b175 (nn i) H) (Sum.elim (fun s2 : Int32 × qa_M => ∃ m', m' < n ∧ ((∃ i, s2.1 = nn i ∧ i + m' ≤ 60001) ∧ qfr [(22, 13), (22, 16), (31, 0), (32, 0)] h s2.2 ∧ ((s2.2.1 22 12 = -1 ∧ Bm (okB s L S) (nT s) st k = []) ∨ ∃ st2 k2, s2.2.1 22 12 = nn st2.length ∧ st2.length + 2 ≤ nT s ∧ stk (s2.2.1 31) st2 ∧ good (okB s L S) st2 ∧ k2 ≤ 36 ∧ s2.2.2.1 32 st2.length = mkm (fun q => decide (k2 ≤ q) && okB s L S st2 q) 36 ∧ lfs (okB s L S) (s2.2.2.1 32) st2 ∧ Bm (okB s L S) (nT s) st k = Bm (okB s L S) (nT s) st2 k2 ∧ m' = mu2 st2 + (37 - k2) * 38 ^ (2 - st2.length)))) (fun z : Int32 × qa_M => (z.1 = 0 ∧ Bm (okB s L S) (nT s) st k = []) ∨ (z.1 = 1 ∧ ∃ b B2, Bm (okB s L S) (nT s) st k = b :: B2 ∧ BS s L S B2 z.2 ∧ z.2.2.1 22 15 = b.2 ∧ stk (z.2.1 31) b.1))) := by
            intro B2 e1 e2
            unfold f_X7_step_b175
            rw [qbd_e, nn_add1, qW_some]
            have hlt : mu2 st + (37 - (q + 1)) * 38 ^ (2 - st.length) < n := by
              rw [hm]
              have : (37 - (q + 1) + 1) * 38 ^ (2 - st.length) ≤ (37 - k) * 38 ^ (2 - st.length) := Nat.mul_le_mul_right _ (by omega)
              rw [Nat.add_mul] at this
              omega
            refine ⟨_, hlt, ⟨i + 1, rfl, by omega⟩, fH, .inr ⟨st, q + 1, H12, hl, Hs.2, hg, by omega, H32, Hl, by rw [e1, e2], rfl⟩⟩
          simp only [H12]
          by_cases cr : msk (okB s L S) (q :: st) = 0
          · rw [if_pos cr]
            refine go_on _ rfl ?_
            by_cases ce : st.length + 2 = nT s
            · rw [Bm_leaf c1 c2' c3 c4 ce, if_pos cr]; rfl
            · rw [Bm_push c1 c2' c3 c4 (by omega)]
              exact Bm_pop (fun j h1 h2 => by
                have := tb_zero j
                rw [← cr] at this
                unfold msk at this
                rw [tb_mkm (by omega), decide_eq_true h2, Bool.true_and] at this
                exact this)
          · rw [if_neg cr]
            by_cases ce : st.length + 2 = nT s
            · rw [if_pos (by rw [spH.1, show (2 : Int32) = nn 2 from rfl, nn_add, ce]), qW_up]
              unfold f_X7_step_b146
              rw [qbd_e, qW_some]
              obtain ⟨G, hG⟩ : ∃ G, G = qw_J H 22 15 (msk (okB s L S) (q :: st)) := ⟨_, rfl⟩
              rw [← hG]
              have fG : qfr [(22, 13), (22, 16), (31, 0), (32, 0)] h G := by rw [hG]; exact qfr_Jk rfl (by simp) fH
              refine .inr ⟨rfl, (q :: st, msk (okB s L S) (q :: st)), Bm (okB s L S) (nT s) st (q + 1), ?_, ⟨Near_fr nt fG (fun j => rfl), SP_fr sp fG rfl (fun b j h1 h2 => by unfold inW; simp; omega), NSp_fr np fG rfl (fun b j h1 h2 => by unfold inW; simp; omega), ?_⟩, ?_, ?_⟩
              · rw [Bm_leaf c1 c2' c3 c4 ce, if_neg cr]; rfl
              · rw [if_neg c2]
                refine .inr ⟨st, q + 1, ?_, hl, ?_, hg, by omega, ?_, ?_, rfl⟩
                · rw [hG]; exact H12
                · rw [hG]; exact Hs.2
                · rw [hG, wJ_ne (by omega)]; exact H32
                · rw [hG]; exact lfs_up Hl (fun j hj => wJ_ne (by omega))
              · rw [hG]; exact wJ_at
              · rw [hG]; exact Hs
            · rw [if_neg (by rw [spH.1, show (2 : Int32) = nn 2 from rfl, nn_add, nn_eq (by omega) (by omega)]; exact ce), wI_at, nn_add1, qck_nn (by omega) (by omega), nn_cl (by omega)]
              unfold f_X7_step_b175
              rw [qbd_e, nn_add1, qW_some]
              obtain ⟨p1, p2⟩ := pow38 (show st.length < 2 by omega)
              have hlt : mu2 (q :: st) + (37 - 0) * 38 ^ (2 - (q :: st).length) < n := by
                show (36 - q) * 38 ^ (2 - st.length) + mu2 st + 37 * 38 ^ (2 - (st.length + 1)) < n
                rw [hm, p1]
                have : (36 - q + 1) * (38 * 38 ^ (2 - (st.length + 1))) ≤ (37 - k) * (38 * 38 ^ (2 - (st.length + 1))) := Nat.mul_le_mul_right _ (by omega)
                rw [Nat.add_mul] at this
                omega
              refine ⟨_, hlt, ⟨i + 1, rfl, by omega⟩, qfr_J0 rfl (by simp) (qfr_Ik rfl (by simp) fH), .inr ⟨q :: st, 0, (wI_at : (qw_I H 22 12 (nn (st.length + 1))).1 22 12 = nn (st.length + 1)), by show st.length + 1 + 2 ≤ nT s; omega, ?_, gq, by omega, ?_, ?_, ?_, rfl⟩⟩
              · exact stk_up Hs (fun j hj => (wI_ne (by omega) : (qw_I H 22 12 (nn (st.length + 1))).1 31 j = H.1 31 j))
              · rw [show (q :: st).length = st.length + 1 from rfl, wJ_at]
                apply mkm_congr
                intro x _
                rw [decide_eq_true (Nat.zero_le x), Bool.true_and]
              · refine ⟨?_, lfs_up Hl (fun j hj => by rw [wJ_ne (by omega)]; rfl)⟩
                show (qw_J (qw_I H 22 12 (nn (st.length + 1))) 32 (st.length + 1) _).2.1 32 st.length = _
                rw [wJ_ne (by omega)]
                exact H32
              · rw [Bm_push c1 c2' c3 c4 (by omega)]
        · have x0 : mkm (fun q => decide (k ≤ q) && okB s L S st q) 36 = 0 := by
            rw [tb_eq0]
            intro j hj
            rw [tb_mkm (by omega)]
            rcases Nat.lt_or_ge j 36 with h36 | h36
            · by_cases d : k ≤ j
              · rw [c j d h36, Bool.and_false, Bool.and_false]
              · rw [decide_eq_false d]; simp
            · rw [decide_eq_false (by omega)]; rfl
          rw [if_pos x0]
          unfold f_X7_step_b175
          rw [qbd_e, qbd_e, nn_add1, qW_some]
          have f2 : qfr [(22, 13), (22, 16), (31, 0), (32, 0)] h (qw_I g 22 12 (nn st.length - 1)) := qfr_Ik rfl (by simp) fg
          cases st with
          | nil =>
            exact ⟨0, by omega, ⟨i + 1, rfl, by omega⟩, f2, .inl ⟨by show (qw_I g 22 12 (nn 0 - 1)).1 22 12 = -1; rw [wI_at]; rfl, Bm_end c⟩⟩
          | cons a st =>
            have ha := hg.1
            refine ⟨mu2 st + (37 - (a + 1)) * 38 ^ (2 - st.length), ?_, ⟨i + 1, rfl, ?_⟩, f2, .inr ⟨st, a + 1, ?_, by simp at hl; omega, ?_, hg.2.2, by omega, ?_, ?_, ?_, rfl⟩⟩
            · rw [hm]
              show _ < (36 - a) * 38 ^ (2 - st.length) + mu2 st + _
              rw [show 37 - (a + 1) = 36 - a by omega]
              omega
            · have e1 : mu2 (a :: st) = (36 - a) * 38 ^ (2 - st.length) + mu2 st := rfl
              rw [show 37 - (a + 1) = 36 - a by omega]
              omega
            · show (qw_I g 22 12 (nn (st.length + 1) - 1)).1 22 12 = nn st.length
              rw [wI_at, nn_sub1 (by omega)]
              rfl
            · exact stk_up hs.2 (fun j hj => wI_ne (by omega))
            · exact hlf.1
            · exact hlf.2
            · exact Bm_pop c
    rcases hB with ⟨e12, rfl⟩ | ⟨st, k, e12, hl, hs, hg, hk, e32, hlf, hBm⟩
    · exact main 0 (0, h) ⟨⟨0, rfl, by omega⟩, qfr_rf, .inl ⟨e12, rfl⟩⟩
    · exact main _ (0, h) ⟨⟨0, rfl, by have := mu2_le (k := k) (st := st) (by omega); omega⟩, qfr_rf, .inr ⟨st, k, e12, hl, hs, hg, hk, e32, hlf, hBm, rfl⟩⟩
theorem k_startB {s : Sg} {L : Nat → Lw} {S : Nat} {h : qa_M} (w : WF s) (wl : ∀ k, k + 1 = gL s → WL (L k)) (nt : NearT h) (sp : SP s L h) (r : RelS 3 s h) (hS : S < 2 ^ gT s) :
    qW (m_X7_start (nn S) h) (fun g => BS s L S (batC s L S) g) := by
  refine qW_fr (k_start w wl nt sp r hS) (fun g e => fr_X7_start _ _ e) ?_
  rintro g ⟨np, g12, g32⟩ fg
  have fg : qfr w_X7_start h g := fg
  refine ⟨Near_fr nt fg (fun j => rfl), SP_fr sp fg rfl (fun b j h1 h2 => by unfold inW w_X7_start; simp; omega), np, ?_⟩
  unfold batC
  by_cases c2 : nT s < 2
  · rw [if_pos c2, g32]
    rcases mb2 (hopl s S) with e | e
    · rw [e, if_pos rfl, if_pos rfl, if_pos rfl]
    · simp only [e, Bool.false_eq_true, if_false]
      by_cases c0 : nT s = 0
      · rw [if_pos c0, if_pos c0, if_neg (by decide)]
      · rw [if_neg c0, if_neg c0, show nT s - 1 = 0 by omega]
        rfl
  · rw [if_neg c2]
    refine .inr ⟨[], if hopl s S then 36 else 0, g12, by show 0 + 2 ≤ nT s; omega, trivial, trivial, by split <;> omega, ?_, trivial, ?_⟩
    · show g.2.1 32 0 = _
      rw [g32]
      rcases mb2 (hopl s S) with e | e
      · rw [e, if_pos rfl, if_pos rfl]
        symm
        rw [tb_eq0]
        intro j _
        rw [tb_mkm (by omega)]
        rcases Nat.lt_or_ge j 36 with h36 | h36
        · rw [decide_eq_false (show ¬ 36 ≤ j by omega)]; simp
        · rw [decide_eq_false (by omega)]; rfl
      · simp only [e, Bool.false_eq_true, if_false]
        rw [if_neg (by omega)]
        apply mkm_congr
        intro q _
        rw [decide_eq_true (Nat.zero_le q), Bool.true_and]
    · rcases mb2 (hopl s S) with e | e
      · rw [e, if_pos rfl, if_pos rfl]
        exact (Bm_end (fun j h1 h2 => by omega)).symm
      · simp only [e, Bool.false_eq_true, if_false]
        rw [if_neg (by omega)]
        obtain ⟨m, hm⟩ : ∃ m, nT s = m + 2 := ⟨nT s - 2, by omega⟩
        rw [hm]
        rfl
