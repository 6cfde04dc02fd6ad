/-! THE CLASS LOOKS TWICE, KEPT -/
theorem k_lookTwice {s : Sg} {L : Nat → Lw} {S : Nat} {h : qa_M} {x : Int32} (w : WF s) (wl : ∀ k, k + 1 = gL s → WL (L k)) (nt : NearT h) (sp : SP s L h) (r : RelS 3 s h) (hS : S < 2 ^ gT s) (rs : RS h) (hx : h.1 40 12 = x → h.1 40 13 = nn S → PK s L S h) :
    qW (m_X0_lookTwice (nn S) x h) (fun g => PK s L S g ∧ g.1 40 12 = x ∧ g.1 40 13 = nn S ∧ qfw wLW h g) := by
  have l8 := w.h.2
  have big : qW (f_X0_lookTwice_b18 (nn S) x h) (fun g => PK s L S g ∧ g.1 40 12 = x ∧ g.1 40 13 = nn S ∧ qfw wLW h g) := by
    unfold f_X0_lookTwice_b18
    rw [qbd_e, qbd_e, wI_ne (by omega), wI_ne (by omega), qbd_e, show h.1 4 2 = nn (gH s) from r.1.1.2.2.1.trans w.h.1]
    obtain ⟨G, hG⟩ : ∃ G, G = qw_I (qw_I (qw_I h 40 12 x) 40 13 (nn S)) 40 7 (nn (gH s)) := ⟨_, rfl⟩
    rw [← hG]
    have fG : qfr [(40, 8), (40, 9), (40, 13), (40, 14), (167, 0)] h G := by rw [hG]; exact qfr_Ik rfl (by simp) (qfr_Ik rfl (by simp) (qfr_Ik rfl (by simp) qfr_rf))
    have q12 : G.1 40 12 = x := by rw [hG, wI_ne (by omega), wI_ne (by omega), wI_at]
    have q13 : G.1 40 13 = nn S := by rw [hG, wI_ne (by omega), wI_at]
    have q7 : G.1 40 7 = nn (gH s) := by rw [hG, wI_at]
    have q8 : G.2.2.1 40 8 = h.2.2.1 40 8 := by rw [hG]; rfl
    have fin : ∀ K : qa_M, LR K → qfw [(40, 8), (40, 9), (40, 13), (40, 14), (167, 0)] h K → K.1 40 12 = x → K.1 40 13 = nn S → K.1 40 7 = nn (gH s) → qW (f_X0_lookTwice_b54 (nn S) K) (fun g => PK s L S g ∧ g.1 40 12 = x ∧ g.1 40 13 = nn S ∧ qfw wLW h g) := by
      intro K lr f k12 k13 k7
      have f' := qfw_r f
      have nK := Near_fr nt f' (fun j => rfl)
      have sK := SP_fr sp f' rfl (fun b j h1 h2 => by unfold inW; simp; omega)
      have rK := RelS_fr r f' (fun c j h1 h2 => by unfold inW; simp; omega)
      have nK : NearT K := nK
      have sK : SP s L K := sK
      have rK : RelS 3 s K := rK
      refine qW_mono (k_lt54 w wl nK sK rK hS lr k7) ?_
      rintro g ⟨pk, fg⟩
      refine ⟨pk, by rw [(fg.1 40 12 rfl).1, k12], by rw [(fg.1 40 13 rfl).1, k13], fun b j e => ?_⟩
      obtain ⟨e1, e2⟩ := inW_wLW e
      obtain ⟨a1, a2, a3⟩ := fg.1 b j e1
      obtain ⟨b1, b2, b3⟩ := f b j e2
      exact ⟨a1.trans b1, a2.trans b2, a3.trans b3⟩
    rcases rs with ⟨r1, r2⟩ | lr
    · rw [q8, r1, qnn_s, qal_s (wl_44 G), if_pos (show nI 0 = 0 from rfl), qbd_e, qbd_e]
      have g0 : G.2.2.2 = 0 := by rw [fG.2]; exact r2
      rw [g0]
      refine fin _ ⟨?_, ?_⟩ (fun b j e => ?_) ?_ ?_ ?_
      · show (if (40 : Nat) = 40 ∧ (8 : Nat) = 8 then 167 + 0 + 1 else G.2.2.1 40 8) = 168
        exact if_pos ⟨rfl, rfl⟩
      · show G.2.2.2 + 1 = 1
        rw [g0]
      · obtain ⟨a1, a2, a3⟩ := fG.1 b j e
        have hb : ¬ b = 167 := by
          rintro rfl
          rw [inW_0 (by simp) j] at e
          cases e
        have hb2 : ¬ (b = 40 ∧ j = 8) := by
          rintro ⟨rfl, rfl⟩
          cases e
        refine ⟨?_, a2, ?_⟩
        · show (if b = 167 + G.2.2.2 then 0 else G.1 b j) = _
          rw [g0, if_neg hb, a1]
        · show (if b = 40 ∧ j = 8 then _ else G.2.2.1 b j) = _
          rw [if_neg hb2, a3]
      · show (if 40 = 167 + G.2.2.2 then 0 else G.1 40 12) = _
        rw [if_neg (by omega), q12]
      · show (if 40 = 167 + G.2.2.2 then 0 else G.1 40 13) = _
        rw [if_neg (by omega), q13]
      · show (if 40 = 167 + G.2.2.2 then 0 else G.1 40 7) = _
        rw [if_neg (by omega), q7]
    · have lG : LR G := ⟨q8.trans lr.1, by rw [fG.2]; exact lr.2⟩
      rw [lG.1, qnn_s, qal_s (wl_167 lG.2), if_neg (by decide)]
      exact fin G lG fG.1 q12 q13 q7
  unfold m_X0_lookTwice
  by_cases c1 : h.1 40 12 = x
  · rw [if_pos c1]
    by_cases c2 : h.1 40 13 = nn S
    · rw [if_pos c2, qW_some]
      exact ⟨hx c1 c2, c1, c2, fun b j e => ⟨rfl, rfl, rfl⟩⟩
    · rw [if_neg c2]
      exact big
  · rw [if_neg c1]
    exact big
/-! which second look, which first -/
theorem PK_at {s : Sg} {L : Nat → Lw} {S : Nat} {h : qa_M} (pk : PK s L S h) {i j a c : Nat} (hi : i < gH s) (hj : j < gH s) (ha : a < 16) (hc : c < 16) : h.1 167 (if i ≤ j then spI i j a c else spI j i c a) = nn (twV s (vw s 0 i) (vw s 0 j) (fitL s L S) a c) := by
  by_cases d : i ≤ j
  · rw [if_pos d]
    exact pk.2.2 i j a c d hj ha hc
  · rw [if_neg d, pk.2.2 j i c a (by omega) hi hc ha, twV_sw]
theorem k_greatestAfter {s : Sg} {L : Nat → Lw} {S : Nat} {h : qa_M} (w : WF s) (pk : PK s L S h) {i a j : Nat} (hi : i < gH s) (ha : a < 16) (hj : j < gH s) : m_X0_greatestAfter (nn i) (nn a) (nn j) h = some (nn (wT s L S i a j), h) := by
  have l8 := w.h.2
  have hf : ∀ c, twV s (vw s 0 i) (vw s 0 j) (fitL s L S) a c ≤ 1679616 := fun c => Nat.le_trans twV_le (fit_len w)
  unfold m_X0_greatestAfter f_X0_greatestAfter_b6_loop
  rw [qbd_e, qbd_e]
  refine qlp_for0 (fun k => (nn i, nn a, nn j, nn (mxN (twV s (vw s 0 i) (vw s 0 j) (fitL s L S) a) k), nn k, h)) 16 ?_ ?_
  · intro k hk
    have h1 := mxN_le hf k
    have h2 := hf k
    have il : (if i ≤ j then spI i j a k else spI j i k a) < 9216 := by
      split
      · exact spI_lt (by omega) (by omega) ha hk
      · exact spI_lt (by omega) (by omega) hk ha
    show f_X0_greatestAfter_b6 (nn i) (nn a) (nn j) (nn _) (nn k) h = _
    unfold f_X0_greatestAfter_b6
    rw [if_neg (by rw [show (16 : Int32) = nn 16 from rfl, nn_le (by omega) (by omega)]; omega), pk.1.1, qnn_s, k_spot (by omega) (by omega), qbn_s, qal_s (wl_167 pk.1.2), qck_nn il (by omega), nn_cl (by omega), PK_at pk hi hj ha hk, nn_qmax (by omega) (by omega), qbd_e, qbd_e, nn_add1]
    rfl
  · show f_X0_greatestAfter_b6 (nn i) (nn a) (nn j) (nn _) (nn 16) h = _
    unfold f_X0_greatestAfter_b6
    rw [if_pos (by decide), qup_s]
    rfl
theorem PK_fr {W : List (Nat × Nat)} {s : Sg} {L : Nat → Lw} {S : Nat} {h g : qa_M} (pk : PK s L S h) (f : qfr W h g) (w1 : inW W 40 7 = false) (w2 : inW W 40 8 = false) (w3 : ∀ j, inW W 167 j = false) : PK s L S g := by
  refine ⟨⟨by rw [(f.1 40 8 w2).2.2]; exact pk.1.1, by rw [f.2]; exact pk.1.2⟩, by rw [(f.1 40 7 w1).1]; exact pk.2.1, fun i j a c h1 h2 h3 h4 => ?_⟩
  rw [(f.1 167 _ (w3 _)).1]
  exact pk.2.2 i j a c h1 h2 h3 h4
theorem k_chooseSecond {s : Sg} {L : Nat → Lw} {S : Nat} {h : qa_M} (w : WF s) (pk : PK s L S h) {i a : Nat} (hi : i < gH s) (ha : a < 16) : qW (m_X0_chooseSecond (nn i) (nn a) h) (BT (wT s L S i a) (some (thB s L S i a))) := by
  have l8 := w.h.2
  have hF : ∀ q, wT s L S i a q < 2147483648 := fun q => by have := wT_le (L := L) (S := S) (i := i) (a := a) (j := q) w; omega
  rw [← (thB_is hi).1]
  unfold m_X0_chooseSecond m_X0_forget
  rw [qbd_e, qbd_e, qbv_s, qbd_e]
  unfold f_X0_chooseSecond_b6_loop
  refine qW_for (gH s) (fun k t => ∃ g, t = (nn i, nn a, nn k, g) ∧ qfr [(40, 15), (40, 16)] h g ∧ BT (wT s L S i a) (bsl (wT s L S i a) (thL s i k)) g) ?_ ?_ (Nat.zero_le _) ⟨_, rfl, qfr_Ik rfl (by simp) (qfr_Ik rfl (by simp) qfr_rf), fun _ => by rw [wI_ne (by omega), wI_at], fun b e => by cases e⟩
  · rintro k t hk ⟨g, rfl, f, bt⟩
    have pg : PK s L S g := PK_fr pk f rfl rfl (fun j => rfl)
    have yes : (k ≠ i ∨ gH s = 1) → qW (f_X0_chooseSecond_b27 (nn i) (nn a) (nn k) g) (Sum.elim (fun t => ∃ g, t = (nn i, nn a, nn (k + 1), g) ∧ qfr [(40, 15), (40, 16)] h g ∧ BT (wT s L S i a) (bsl (wT s L S i a) (thL s i (k + 1))) g) (BT (wT s L S i a) (bsl (wT s L S i a) (thL s i (gH s))))) := by
      intro ok
      unfold f_X0_chooseSecond_b27 f_X0_chooseSecond_b39
      rw [k_greatestAfter w pg hi ha hk, qbn_s, qW_bv]
      refine qW_fr (k_choose (F := wT s L S i a) (o := bsl (wT s L S i a) (thL s i k)) hF (fun b e => by have := thL_lt (bsl_mem rfl e); omega) bt) (fun z e => fr_X0_choose _ _ _ e) ?_
      intro g2 bt2 f2
      have f2 : qfr [(40, 15), (40, 16)] g g2 := f2
      rw [qbd_e, nn_add1, qW_some]
      refine ⟨g2, rfl, qfr_tr f f2, ?_⟩
      rw [thL_t ok, bsl_snoc]
      exact bt2
    show qW (f_X0_chooseSecond_b6 (nn i) (nn a) (nn k) g) _
    unfold f_X0_chooseSecond_b6
    rw [pg.2.1, if_neg (fun q => by rw [nn_le (by omega) (by omega)] at q; omega)]
    by_cases c : k = i
    · rw [if_pos (by rw [c])]
      by_cases c1 : gH s = 1
      · rw [if_pos (by rw [c1]; rfl)]
        exact yes (.inr c1)
      · rw [if_neg (by rw [show (1 : Int32) = nn 1 from rfl, nn_eq (by omega) (by omega)]; exact c1)]
        unfold f_X0_chooseSecond_b39
        rw [qbd_e, nn_add1, qW_some]
        exact ⟨g, rfl, f, by rw [thL_f (by omega)]; exact bt⟩
    · rw [if_neg (by rw [nn_eq (by omega) (by omega)]; exact c)]
      exact yes (.inl c)
  · rintro t ⟨g, rfl, f, bt⟩
    have pg : PK s L S g := PK_fr pk f rfl rfl (fun j => rfl)
    show qW (f_X0_chooseSecond_b6 (nn i) (nn a) (nn (gH s)) g) _
    unfold f_X0_chooseSecond_b6
    rw [pg.2.1, if_pos ((nn_le (by omega) (by omega)).mpr (by omega)), qup_s, qW_some]
    exact bt
