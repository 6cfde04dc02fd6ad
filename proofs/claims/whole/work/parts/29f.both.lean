/-! THE REFERENCE'S COUNTS OF TWO LOOKS, FILLED -/
theorem GyS_fw {W : List (Nat × Nat)} {s : Sg} {L : Nat → Lw} {S : Nat} {F : List (List Nat)} {h g : qa_M} (gs : GyS s L S F h) (f : qfr W h g) (w1 : inW W 119 48 = false) (w2 : inW W 119 49 = false) (w3 : ∀ b j, 151 ≤ b → b ≤ 155 → inW W b j = false) : GyS s L S F g := by
  obtain ⟨R, ⟨⟨a, b, c, d, e⟩, hR⟩, hF⟩ := gs
  refine ⟨R, ⟨⟨?_, fun t ht => ?_, fun x y hx hy => ?_, fun i hi => ?_, fun m hm => ?_⟩, ?_⟩, hF⟩
  · rw [(f.1 119 48 w1).1]; exact a
  · rw [(f.1 152 t (w3 _ _ (by omega) (by omega))).1]; exact b t ht
  · rw [(f.1 153 _ (w3 _ _ (by omega) (by omega))).1]; exact c x y hx hy
  · rw [(f.1 154 i (w3 _ _ (by omega) (by omega))).2.1]; exact d i hi
  · rw [(f.1 155 m (w3 _ _ (by omega) (by omega))).2.1]; exact e m hm
  · have q1 : g.1 119 49 = h.1 119 49 := (f.1 119 49 w2).1
    have q2 : g.1 151 = h.1 151 := by funext j; exact (f.1 151 j (w3 _ _ (by omega) (by omega))).1
    rw [q1, q2]
    exact hR
theorem GyS_rp {s : Sg} {L : Nat → Lw} {S : Nat} {F : List (List Nat)} {h : qa_M} (gs : GyS s L S F h) : RP s L h := by
  obtain ⟨R, lsR, -⟩ := gs
  exact lsR.1
/-- the words for all hills -/
theorem r_toldAll {s : Sg} {L : Nat → Lw} {h : qa_M} {x1 : Int32} (w : WF s) (hs : sg h = s) (rp : RP s L h) {l : List Nat} (hl : l.length = nT s) (hk : stk (h.1 151) l) (h36 : lt36 l) {V : Nat → Int64} (hV : ∀ i, i < gH s → h.2.1 156 i = V i) {P : ((Int32 × qa_M) ⊕ qa_M) → Prop}
    (hP : ∀ g, qfr [(158, 0)] h g → (∀ i, i < gH s → g.1 158 i = nn (tld s (V i) l)) → qW (f_X12_fillsBoth_b112_loop x1 (nn 0) g) P) : qW (f_X12_fillsBoth_b78_loop x1 (nn 0) h) P := by
  have l8 := w.h.2
  have e2 : ∀ g, qfr [(158, 0)] h g → g.1 120 2 = nn (gH s) := fun g f => by
    rw [(f.1 120 2 rfl).1]
    have := w.h.1
    rw [← hs] at this ⊢
    exact this
  unfold f_X12_fillsBoth_b78_loop
  refine qW_for (gH s) (fun k t => ∃ g, t = (x1, nn k, g) ∧ qfr [(158, 0)] h g ∧ ∀ i, i < k → g.1 158 i = nn (tld s (V i) l)) ?_ ?_ (Nat.zero_le _) ⟨h, rfl, qfr_rf, fun i hi => by omega⟩
  · rintro k t hk2 ⟨g, rfl, f, hg⟩
    have sgg : sg g = s := by rw [sg_fr f (fun b j h1 h2 => by unfold inW; simp; omega), hs]
    have rpg : RP s L g := by
      obtain ⟨a, b, c, d, e⟩ := rp
      refine ⟨?_, fun t ht => ?_, fun x y hx hy => ?_, fun i hi => ?_, fun m hm => ?_⟩
      · rw [(f.1 119 48 rfl).1]; exact a
      · rw [(f.1 152 t rfl).1]; exact b t ht
      · rw [(f.1 153 _ rfl).1]; exact c x y hx hy
      · rw [(f.1 154 i rfl).2.1]; exact d i hi
      · rw [(f.1 155 m rfl).2.1]; exact e m hm
    have hkg : stk (g.1 151) l := stk_up hk (fun j _ => (f.1 151 j rfl).1)
    have wg : WF (sg g) := by rw [sgg]; exact w
    rw [← sgg] at rpg hl
    show qW (f_X12_fillsBoth_b78 x1 (nn k) g) _
    unfold f_X12_fillsBoth_b78
    rw [qck_ok (i := 2) (by decide), show (2 : Int32).toNatClampNeg = 2 from rfl, e2 g f, if_neg (fun q => by rw [nn_le (by omega) (by omega)] at q; omega), qck_nn (by omega) (by omega), nn_cl (by omega), (f.1 156 k rfl).2.1, hV k hk2, r_noneSeen wg rpg hl hkg h36, qbn_s, qck_nn (by omega) (by omega), qbd_e, qbd_e, nn_add1, qW_some, sgg]
    refine ⟨_, rfl, qfr_tr f (qfr_I0 rfl (by simp) qfr_rf), fun i hi => ?_⟩
    by_cases c : i = k
    · subst c
      exact wI_at
    · rw [wI_ne (by omega)]
      exact hg i (by omega)
  · rintro t ⟨g, rfl, f, hg⟩
    show qW (f_X12_fillsBoth_b78 x1 (nn (gH s)) g) _
    unfold f_X12_fillsBoth_b78 f_X12_fillsBoth_b110
    rw [qck_ok (i := 2) (by decide), show (2 : Int32).toNatClampNeg = 2 from rfl, e2 g f, if_pos ((nn_le (by omega) (by omega)).mpr (by omega)), qbd_e, qW_up]
    exact hP g f hg
/-- all counts -/
def BO (s : Sg) (L : Nat → Lw) (S : Nat) (h : qa_M) : Prop := ∀ i a j b, i < gH s → a < 16 → j < gH s → b < 16 → h.1 159 (ix i a j b) = nn (twV s (vw s 0 i) (vw s 0 j) (fitL s L S) a b)
theorem r_bothLays {s : Sg} {L : Nat → Lw} {S : Nat} {h : qa_M} (w : WF s) (wl : ∀ k, k + 1 = gL s → WL (L k)) (hs : sg h = s) (hS : S < 2 ^ gT s) (gs : GyS s L S (fitL s L S) h) (h0 : ∀ i a j b, i < gH s → a < 16 → j < gH s → b < 16 → h.1 159 (ix i a j b) = 0) (hV : ∀ i, i < gH s → h.2.1 156 i = vw s 0 i) :
    qW (f_X12_fillsBoth_b68_loop (nn S) h) (BO s L S) := by
  have l8 := w.h.2
  unfold f_X12_fillsBoth_b68_loop
  refine qW_lst (fun rem t => ∃ g D, t = (nn S, g) ∧ GyS s L S rem g ∧ sg g = s ∧ D ++ rem = fitL s L S ∧ (∀ i, i < gH s → g.2.1 156 i = vw s 0 i) ∧ ∀ i a j b, i < gH s → a < 16 → j < gH s → b < 16 → g.1 159 (ix i a j b) = nn (twV s (vw s 0 i) (vw s 0 j) D a b)) ?_ ?_ _ _ ⟨h, [], rfl, gs, hs, rfl, hV, fun i a j b h1 h2 h3 h4 => h0 i a j b h1 h2 h3 h4⟩
  · rintro l rem t ⟨g, D, rfl, gs, hs, hD, hV, hc⟩
    show qW (f_X12_fillsBoth_b68 (nn S) g) _
    unfold f_X12_fillsBoth_b68
    rw [qW_bn]
    refine qW_fr (r_goesTo w wl hs hS gs) (fun z e => fr_X12_goesTo _ _ e) ?_
    rintro ⟨v, g2⟩ hz fg
    have fg : qfr [(119, 50), (151, 0)] g g2 := fg
    dsimp only at hz ⊢
    rcases hz with ⟨-, e⟩ | ⟨rfl, l2, F2, e, q1, q2, q3, q4⟩
    · cases e
    · cases e
      have sg2 : sg g2 = s := by rw [sg_ly fg, hs]
      rw [if_neg (by decide), qbd_e]
      refine r_toldAll w sg2 (GyS_rp q1) q2 q3 (good_lt q4) (V := vw s 0) (fun i hi => by rw [(fg.1 156 i rfl).2.1]; exact hV i hi) ?_
      intro g3 f3 h3
      have sg3 : sg g3 = s := by rw [sg_fr f3 (fun b j h1 h2 => by unfold inW; simp; omega), sg2]
      refine r_bothIn w sg3 (T := fun i => tld s (vw s 0 i) l) (fun i hi => ⟨tld_lt w, h3 i hi⟩) ?_
      intro g4 f4 h4
      refine ⟨g4, D ++ [l], rfl, GyS_fw (GyS_fw q1 f3 rfl rfl (fun b j h1 h2 => by unfold inW; simp; omega)) f4 rfl rfl (fun b j h1 h2 => by unfold inW; simp; omega), by rw [sg_fr f4 (fun b j h1 h2 => by unfold inW; simp; omega), sg3], by rw [List.append_assoc, ← hD]; rfl, fun i hi => by rw [(f4.1 156 i rfl).2.1, (f3.1 156 i rfl).2.1, (fg.1 156 i rfl).2.1]; exact hV i hi, fun i a j b p1 p2 p3 p4 => ?_⟩
      rw [h4 i a j b p1 p2 p3 p4, (f3.1 159 _ rfl).1, (fg.1 159 _ rfl).1, hc i a j b p1 p2 p3 p4, nn_add]
      congr 1
      unfold twV
      rw [List.countP_append, List.countP_cons, List.countP_nil, Nat.zero_add]
      simp only [decide_eq_true_eq]
  · rintro t ⟨g, D, rfl, gs, hs, hD, hV, hc⟩
    show qW (f_X12_fillsBoth_b68 (nn S) g) _
    unfold f_X12_fillsBoth_b68
    rw [qW_bn]
    refine qW_fr (r_goesTo w wl hs hS gs) (fun z e => fr_X12_goesTo _ _ e) ?_
    rintro ⟨v, g2⟩ hz fg
    have fg : qfr [(119, 50), (151, 0)] g g2 := fg
    dsimp only at hz ⊢
    have hD : D = fitL s L S := by simpa using hD
    rcases hz with ⟨rfl, -⟩ | ⟨-, l2, F2, e, -⟩
    · rw [if_pos rfl, qup_s, qW_some]
      intro i a j b p1 p2 p3 p4
      rw [(fg.1 159 _ rfl).1, ← hD]
      exact hc i a j b p1 p2 p3 p4
    · cases e
theorem r_fillsBoth {h : qa_M} (w : WF (sg h)) (wl : ∀ k, k + 1 = gL (sg h) → WL (lw h k)) {S : Nat} (hS : S < 2 ^ gT (sg h)) : qW (m_X12_fillsBoth (nn S) h) (BO (sg h) (lw h) S) := by
  have l8 := w.h.2
  have main : ∀ g, qfr [(159, 0)] h g → (∀ j, j < 16384 → g.1 159 j = 0) → qW (f_X12_fillsBoth_b24 (nn S) g) (BO (sg h) (lw h) S) := by
    intro g f z
    have s0 : sg g = sg h := sg_fr f (fun b j h1 h2 => by unfold inW; simp; omega)
    have w0 : lw g = lw h := lw_fr f (fun b j h1 h2 => by unfold inW; simp; omega)
    unfold f_X12_fillsBoth_b24
    rw [qW_bv]
    refine qW_fr (r_beginsG (h := g) (by rw [s0]; exact w) (by rw [s0, w0]; exact wl) S) (fun z e => fr_X12_beginsLayings _ e) ?_
    rintro g1 ⟨gs, -, s1, -⟩ f1
    have f1 : qfr w_X12_beginsLayings g g1 := f1
    rw [s0] at gs s1
    rw [w0] at gs
    rw [qbd_e]
    unfold f_X12_fillsBoth_b30_loop
    refine qW_for (gH (sg h)) (fun k t => ∃ G, t = (nn S, nn k, G) ∧ qfr [(156, 0)] g1 G ∧ ∀ i, i < k → G.2.1 156 i = vw (sg h) 0 i) ?_ ?_ (Nat.zero_le _) ⟨g1, rfl, qfr_rf, fun i hi => by omega⟩
    · rintro k t hk ⟨G, rfl, fG, hG⟩
      have sG : sg G = sg h := by rw [sg_fr fG (fun b j h1 h2 => by unfold inW; simp; omega), s1]
      have e2 : G.1 120 2 = nn (gH (sg h)) := by rw [← sG]; rw [← sG] at w; exact w.h.1
      have a1 := w.hA hk
      have a2 := w.hF hk
      have e122 : G.1 122 k = nn (hAt (sg h) k) := by rw [← a1.1, ← sG]; rfl
      have e123 : G.1 123 k = nn (hFar (sg h) k) := by rw [← a2.1, ← sG]; rfl
      show qW (f_X12_fillsBoth_b30 (nn S) (nn k) G) _
      unfold f_X12_fillsBoth_b30
      rw [qck_ok (i := 2) (by decide), show (2 : Int32).toNatClampNeg = 2 from rfl, e2, if_neg (fun q => by rw [nn_le (by omega) (by omega)] at q; omega), qck_nn (by omega) (by omega), qck_nn (by omega) (by omega), nn_cl (by omega), e122, e123, r_seenFrom (by rw [sG]; exact w) (by omega) (by omega), qbn_s, qck_nn (by omega) (by omega), qbd_e, qbd_e, nn_add1, qW_some, sG]
      refine ⟨_, rfl, qfr_tr fG (qfr_J0 rfl (by simp) qfr_rf), fun i hi => ?_⟩
      by_cases c : i = k
      · subst c
        rw [wJ_at]
        rfl
      · rw [wJ_ne (by omega)]
        exact hG i (by omega)
    · rintro t ⟨G, rfl, fG, hG⟩
      have sG : sg G = sg h := by rw [sg_fr fG (fun b j h1 h2 => by unfold inW; simp; omega), s1]
      have e2 : G.1 120 2 = nn (gH (sg h)) := by rw [← sG]; rw [← sG] at w; exact w.h.1
      show qW (f_X12_fillsBoth_b30 (nn S) (nn (gH (sg h))) G) _
      unfold f_X12_fillsBoth_b30
      rw [qck_ok (i := 2) (by decide), show (2 : Int32).toNatClampNeg = 2 from rfl, e2, if_pos ((nn_le (by omega) (by omega)).mpr (by omega)), qW_up]
      refine r_bothLays w wl sG hS (GyS_fw gs fG rfl rfl (fun b j h1 h2 => by unfold inW; simp; omega)) (fun i a j b p1 p2 p3 p4 => ?_) hG
      rw [(fG.1 159 _ rfl).1, (f1.1 159 _ rfl).1, z _ (ix_lt (by omega) p2 (by omega) p4)]
  obtain ⟨N, hN⟩ : ∃ N, N = 16384 := ⟨_, rfl⟩
  unfold m_X12_fillsBoth
  rw [qbd_e]
  unfold f_X12_fillsBoth_b2_loop
  refine qW_for N (fun k t => ∃ g, t = (nn S, nn k, g) ∧ qfr [(159, 0)] h g ∧ ∀ j, j < k → g.1 159 j = 0) ?_ ?_ (Nat.zero_le _) ⟨h, rfl, qfr_rf, fun i hi => by omega⟩
  · rintro k t hk ⟨g, rfl, f, z⟩
    show qW (f_X12_fillsBoth_b2 (nn S) (nn k) g) _
    unfold f_X12_fillsBoth_b2
    rw [if_neg (by rw [show (16384 : Int32) = nn 16384 from rfl, nn_le (by omega) (by omega)]; omega), qck_nn (by omega) (by omega), nn_cl (by omega), qbd_e, qbd_e, nn_add1, qW_some]
    refine ⟨_, rfl, qfr_tr f (qfr_I0 rfl (by simp) qfr_rf), fun i hi => ?_⟩
    by_cases c : i = k
    · subst c
      exact wI_at
    · rw [wI_ne (by omega)]
      exact z i (by omega)
  · rintro t ⟨g, rfl, f, z⟩
    show qW (f_X12_fillsBoth_b2 (nn S) (nn N) g) _
    unfold f_X12_fillsBoth_b2
    rw [if_pos (by rw [show (16384 : Int32) = nn 16384 from rfl, nn_le (by omega) (by omega)]; omega), qW_up]
    exact main g f (fun j hj => z j (by omega))
