/-! THE REFERENCE'S FRESH LOOK, WHOLE -/
theorem nms_oL {s : Sg} {m : Nat} (h : m ≠ 0) : nms s m = oL s 36 := by unfold nms oL; rw [if_neg h]
theorem r_freshLays {s : Sg} {L : Nat → Lw} {S m : Nat} {h : qa_M} {x : Int32} (w : WF s) (wl : ∀ k, k + 1 = gL s → WL (L k)) (hm0 : m ≠ 0) (hs : sg h = s) (hS : S < 2 ^ gT s) (gs : GyS s L S (fitL s L S) h) (h0 : ∀ j, j < 576 → h.1 160 j = 0) (hV : ∀ q, q < 36 → h.2.1 156 q = frM s m q) :
    qW (f_X12_fresh_b115_loop (nn S) x h) (fun z => z.1 = nxA x (wst s L S m) (bsl (wst s L S m) (nms s m))) := by
  unfold f_X12_fresh_b115_loop
  refine qW_lst (fun rem t => ∃ g D, t = (nn S, x, g) ∧ GyS s L S rem g ∧ sg g = s ∧ D ++ rem = fitL s L S ∧ (∀ q, q < 36 → g.2.1 156 q = frM s m q) ∧ ∀ q c, q < 36 → opn s q = true → c < 16 → g.1 160 (16 * q + c) = nn (tlV s (seesM s q m) D c)) ?_ ?_ _ _ ⟨h, [], rfl, gs, hs, rfl, hV, fun q c h1 h2 h3 => h0 _ (by omega)⟩
  · rintro l rem t ⟨g, D, rfl, gs, hs, hD, hV, hc⟩
    show qW (f_X12_fresh_b115 (nn S) x g) _
    unfold f_X12_fresh_b115
    rw [qW_bn]
    refine qW_fr (r_goesTo w wl hs hS gs) (fun z e => fr_X12_goesTo _ _ e) ?_
    rintro ⟨v, g2⟩ hz fg
    have fg : qfr [(119, 50), (151, 0)] g g2 := fg
    dsimp only at hz ⊢
    rcases hz with ⟨-, e⟩ | ⟨rfl, l2, F2, e, q1, q2, q3, q4⟩
    · cases e
    · cases e
      have sg2 : sg g2 = s := by rw [sg_ly fg, hs]
      rw [if_neg (by decide), qbd_e]
      refine r_singleIn (m := m) w sg2 (GyS_rp q1) q2 q3 (good_lt q4) (fun i hi => by rw [(fg.1 156 i rfl).2.1]; exact hV i hi) ?_
      intro g4 f4 h4
      refine ⟨g4, D ++ [l], rfl, GyS_fw q1 f4 rfl rfl (fun b j h1 h2 => by unfold inW; simp; omega), by rw [sg_fr f4 (fun b j h1 h2 => by unfold inW; simp; omega), sg2], by rw [List.append_assoc, ← hD]; rfl, fun i hi => by rw [(f4.1 156 i rfl).2.1, (fg.1 156 i rfl).2.1]; exact hV i hi, fun q c p1 p2 p3 => ?_⟩
      rw [h4 q c p1 p2 p3, (fg.1 160 _ rfl).1, hc q c p1 p2 p3, nn_add]
      congr 1
      unfold tlV
      rw [List.countP_append, List.countP_cons, List.countP_nil, Nat.zero_add]
      simp only [decide_eq_true_eq]
  · rintro t ⟨g, D, rfl, gs, hs, hD, hV, hc⟩
    show qW (f_X12_fresh_b115 (nn S) x g) _
    unfold f_X12_fresh_b115
    rw [qW_bn]
    refine qW_fr (r_goesTo w wl hs hS gs) (fun z e => fr_X12_goesTo _ _ e) ?_
    rintro ⟨v, g2⟩ hz fg
    have fg : qfr [(119, 50), (151, 0)] g g2 := fg
    dsimp only at hz ⊢
    have hD : D = fitL s L S := by simpa using hD
    rcases hz with ⟨rfl, -⟩ | ⟨-, l2, F2, e, -⟩
    · have so : SO s L S m g2 := by
        refine ⟨fun q hq => by rw [(fg.1 156 q rfl).2.1]; exact hV q hq, fun q c p1 p2 p3 => ?_⟩
        rw [(fg.1 160 _ rfl).1, ← hD]
        exact hc q c p1 p2 p3
      rw [if_pos rfl]
      unfold f_X12_fresh_b180
      rw [qbd_e, qbd_e, show (0 : Int32) = nn 0 from rfl, r_freshLoop w hm0 so, qup_s, qW_some]
      show nxA x _ _ = _
      rw [nms_oL hm0]
    · cases e
theorem r_freshMain {h : qa_M} {x : Int32} (w : WF (sg h)) (wl : ∀ k, k + 1 = gL (sg h) → WL (lw h k)) {S m : Nat} (hS : S < 2 ^ gT (sg h)) (hm0 : m ≠ 0) (hm : m < 2147483648) : qW (f_X12_fresh_b35_loop (nn S) (nn m) x (nn 0) h) (fun z => z.1 = nxA x (wst (sg h) (lw h) S m) (bsl (wst (sg h) (lw h) S m) (nms (sg h) m))) := by
  have main : ∀ g, qfr [(160, 0)] h g → (∀ j, j < 576 → g.1 160 j = 0) → qW (f_X12_fresh_b59 (nn S) (nn m) x g) (fun z => z.1 = nxA x (wst (sg h) (lw h) S m) (bsl (wst (sg h) (lw h) S m) (nms (sg h) m))) := by
    intro g f z
    have s0 : sg g = sg h := sg_fr f (fun b j h1 h2 => by unfold inW; simp; omega)
    have w0 : lw g = lw h := lw_fr f (fun b j h1 h2 => by unfold inW; simp; omega)
    unfold f_X12_fresh_b59
    rw [qW_bv]
    refine qW_fr (r_beginsG (h := g) (by rw [s0]; exact w) (by rw [s0, w0]; exact wl) S) (fun z e => fr_X12_beginsLayings _ e) ?_
    rintro g1 ⟨gs, -, s1, -⟩ f1
    have f1 : qfr w_X12_beginsLayings g g1 := f1
    rw [s0] at gs s1
    rw [w0] at gs
    rw [qbd_e]
    unfold f_X12_fresh_b66_loop
    refine qW_for 36 (fun k t => ∃ G, t = (nn S, nn m, x, nn k, G) ∧ qfr [(156, 0)] g1 G ∧ ∀ i, i < k → G.2.1 156 i = frM (sg h) m i) ?_ ?_ (Nat.zero_le _) ⟨g1, rfl, qfr_rf, fun i hi => by omega⟩
    · rintro k t hk ⟨G, rfl, fG, hG⟩
      have sG : sg G = sg h := by rw [sg_fr fG (fun b j h1 h2 => by unfold inW; simp; omega), s1]
      have wG : WF (sg G) := by rw [sG]; exact w
      have fin : ∀ v : Int64, v = frM (sg h) m k → qW (f_X12_fresh_b108 (nn S) (nn m) x (nn k) (nn k) v G) (Sum.elim (fun t => ∃ G, t = (nn S, nn m, x, nn (k + 1), G) ∧ qfr [(156, 0)] g1 G ∧ ∀ i, i < k + 1 → G.2.1 156 i = frM (sg h) m i) (fun z => z.1 = nxA x (wst (sg h) (lw h) S m) (bsl (wst (sg h) (lw h) S m) (nms (sg h) m)))) := by
        intro v hv
        unfold f_X12_fresh_b108
        rw [qck_nn (by omega) (by omega), nn_cl (by omega), qbd_e, qbd_e, nn_add1, qW_some]
        refine ⟨_, rfl, qfr_tr fG (qfr_J0 rfl (by simp) qfr_rf), fun i hi => ?_⟩
        by_cases c : i = k
        · subst c
          rw [wJ_at]
          exact hv
        · rw [wJ_ne (by omega)]
          exact hG i (by omega)
      show qW (f_X12_fresh_b66 (nn S) (nn m) x (nn k) G) _
      unfold f_X12_fresh_b66 f_X12_fresh_b107
      rw [if_neg (fun q => by rw [show (36 : Int32) = nn 36 from rfl, nn_le (by omega) (by omega)] at q; omega), r_isThere wG hk, qbn_s, sG]
      rcases mb2 (thr (sg h) k) with e | e
      · rw [e, if_neg (by decide), r_isWood wG hk, qbn_s, sG]
        rcases mb2 (isW (sg h) k) with e2 | e2
        · rw [e2, if_neg (by decide)]
          refine fin 0 ?_
          unfold frM opn
          rw [e, e2]
          rfl
        · rw [e2, if_pos (by decide), r_seenFrom wG hk hm, qbn_s, sG]
          refine fin _ ?_
          unfold frM opn
          rw [e, e2]
          rfl
      · rw [e, if_pos (by decide)]
        refine fin 0 ?_
        unfold frM opn
        rw [e]
        rfl
    · rintro t ⟨G, rfl, fG, hG⟩
      have sG : sg G = sg h := by rw [sg_fr fG (fun b j h1 h2 => by unfold inW; simp; omega), s1]
      show qW (f_X12_fresh_b66 (nn S) (nn m) x (nn 36) G) _
      unfold f_X12_fresh_b66
      rw [if_pos (by decide), qW_up]
      exact r_freshLays w wl hm0 sG hS (GyS_fw gs fG rfl rfl (fun b j h1 h2 => by unfold inW; simp; omega)) (fun j hj => by rw [(fG.1 160 _ rfl).1, (f1.1 160 _ rfl).1, z _ hj]) hG
  obtain ⟨N, hN⟩ : ∃ N, N = 576 := ⟨_, rfl⟩
  unfold f_X12_fresh_b35_loop
  refine qW_for N (fun k t => ∃ g, t = (nn S, nn m, x, nn k, g) ∧ qfr [(160, 0)] h g ∧ ∀ j, j < k → g.1 160 j = 0) ?_ ?_ (Nat.zero_le _) ⟨h, rfl, qfr_rf, fun i hi => by omega⟩
  · rintro k t hk ⟨g, rfl, f, z⟩
    show qW (f_X12_fresh_b35 (nn S) (nn m) x (nn k) g) _
    unfold f_X12_fresh_b35
    rw [if_neg (by rw [show (576 : Int32) = nn 576 from rfl, nn_le (by omega) (by omega)]; omega), qck_nn (by omega) (by omega), nn_cl (by omega), qbd_e, qbd_e, nn_add1, qW_some]
    refine ⟨_, rfl, qfr_tr f (qfr_I0 rfl (by simp) qfr_rf), fun i hi => ?_⟩
    by_cases c : i = k
    · subst c
      exact wI_at
    · rw [wI_ne (by omega)]
      exact z i (by omega)
  · rintro t ⟨g, rfl, f, z⟩
    show qW (f_X12_fresh_b35 (nn S) (nn m) x (nn N) g) _
    unfold f_X12_fresh_b35
    rw [if_pos (by rw [show (576 : Int32) = nn 576 from rfl, nn_le (by omega) (by omega)]; omega), qW_up]
    exact main g f (fun j hj => z j (by omega))
