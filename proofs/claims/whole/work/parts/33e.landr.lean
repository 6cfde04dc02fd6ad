/-! A LAND IS READ: settled; the class's whole way -/
theorem k_settle {s : Sg} {h : qa_M} (w : WF s) (hC : 2 ≤ gC s) (hR : 2 ≤ gR s) (r : RelD s h) : qW (m_X3_settle h) (RelL 14 s) := by
  have lc := w.c.2
  have lr := w.r.2
  have l8 := w.h.2
  obtain ⟨⟨a0, a1, a2, a3, a4, a5⟩, b, c, d, e⟩ := r
  have e2 : h.1 14 2 = nn (gH s) := a2.trans w.h.1
  unfold m_X3_settle
  rw [a0, w.c.1, a1, w.r.1, nn_sub1 (by omega), nn_sub1 (by omega), show m_X2_box 0 0 (nn (gC s - 1)) (nn (gR s - 1)) h = some (mkm (inB 0 0 (gC s - 1) (gR s - 1)) 36, h) from k_box (x := 0) (y := 0) (by omega) (by omega) (by omega) (by omega), qbn_s, qbd_e, qbd_e]
  have em : mkm (inB 0 0 (gC s - 1) (gR s - 1)) 36 = mkm (thr s) 36 := mkm_congr (fun q hq => by
    unfold inB thr
    rw [Bool.eq_iff_iff]
    simp only [Bool.and_eq_true, decide_eq_true_eq]
    omega)
  rw [em]
  unfold f_X3_settle_b23_loop
  refine qW_for (gH s) (fun k z => ∃ g, z = (nn k, g) ∧ qfr [(14, 7), (14, 8)] h g ∧ g.2.1 14 6 = mkm (thr s) 36 ∧ g.2.1 14 7 = mkm (fun q => decide (s 1 q = 1) && !exN (fun i => decide (s 2 i = nn q)) k) 36) ?_ ?_ (Nat.zero_le _) ⟨_, rfl, qfr_Jk rfl (by simp) qfr_rf, wJ_at, ?_⟩
  · rintro k z hk ⟨g, rfl, f, g6, g7⟩
    have hA := w.hA hk
    show qW (f_X3_settle_b23 (nn k) g) _
    unfold f_X3_settle_b23
    rw [(f.1 14 2 rfl).1, e2, if_neg (fun q => by rw [nn_le (by omega) (by omega)] at q; omega), qck_nn (by omega) (by omega), nn_cl (by omega), (f.1 15 k rfl).1, (c k hk).1, hA.1, qbd_e, qbd_e, nn_add1, qW_some]
    refine ⟨_, rfl, qfr_tr f (qfr_Jk rfl (by simp) qfr_rf), by rw [wJ_ne (by omega)]; exact g6, ?_⟩
    rw [wJ_at, g7]
    refine mkm_of (by omega) (fun q hq => ?_)
    rw [tb_and, tb_not hq, tb_mkm (by omega), tb_bit (by omega)]
    have hx : exN (fun i => decide (s 2 i = nn q)) (k + 1) = (exN (fun i => decide (s 2 i = nn q)) k || decide (q = hAt s k)) := by
      show (_ || decide (s 2 k = nn q)) = _
      rw [hA.1]
      congr 1
      rw [Bool.eq_iff_iff, decide_eq_true_eq, decide_eq_true_eq, nn_eq (by omega) (by omega)]
      omega
    rw [hx]
    cases decide (q < 36) <;> cases decide (s 1 q = 1) <;> cases exN (fun i => decide (s 2 i = nn q)) k <;> cases decide (q = hAt s k) <;> rfl
  · rintro z ⟨g, rfl, f, g6, g7⟩
    have ew : mkm (fun q => decide (s 1 q = 1) && !exN (fun i => decide (s 2 i = nn q)) (gH s)) 36 = mkm (isW s) 36 := mkm_congr (fun q hq => by
      unfold isW hon
      congr 1
      rw [Bool.eq_iff_iff, decide_eq_true_eq, fstI_m1 (by omega), Bool.not_eq_true']
      constructor
      · intro x j hj
        cases y : decide (s 2 j = nn q) with
        | false => rfl
        | true => rw [exN_iff.mpr ⟨j, hj, y⟩] at x; cases x
      · intro x
        cases y : exN (fun i => decide (s 2 i = nn q)) (gH s) with
        | false => rfl
        | true =>
          obtain ⟨j, hj, y⟩ := exN_iff.mp y
          rw [x j hj] at y
          cases y)
    rw [ew] at g7
    show qW (f_X3_settle_b23 (nn (gH s)) g) _
    unfold f_X3_settle_b23 f_X3_settle_b58
    rw [(f.1 14 2 rfl).1, e2, if_pos ((nn_le (by omega) (by omega)).mpr (by omega)), qW_up, qbd_e]
    unfold f_X3_settle_b60_loop
    refine qW_for (gH s) (fun k z => ∃ G, z = (nn k, G) ∧ qfr [(17, 0)] g G ∧ ∀ i, i < k → G.2.1 17 i = seesM s (hAt s i) (hFar s i)) ?_ ?_ (Nat.zero_le _) ⟨g, rfl, qfr_rf, fun i hi => by omega⟩
    · rintro k z hk ⟨G, rfl, fG, gv⟩
      have hA := w.hA hk
      have hF := w.hF hk
      show qW (f_X3_settle_b60 (nn k) G) _
      unfold f_X3_settle_b60
      rw [(fG.1 14 2 rfl).1, (f.1 14 2 rfl).1, e2, if_neg (fun q => by rw [nn_le (by omega) (by omega)] at q; omega), qck_nn (by omega) (by omega), qck_nn (by omega) (by omega), nn_cl (by omega), (fG.1 15 k rfl).1, (f.1 15 k rfl).1, (c k hk).1, hA.1, (fG.1 16 k rfl).1, (f.1 16 k rfl).1, (c k hk).2, hF.1]
      rw [k_view (s := s) (by rw [(fG.1 14 6 rfl).2.1]; exact g6) (by rw [(fG.1 14 7 rfl).2.1]; exact g7) (by omega) (by omega), qbn_s, qck_nn (by omega) (by omega), qbd_e, qbd_e, nn_add1, qW_some]
      refine ⟨_, rfl, qfr_tr fG (qfr_J0 rfl (by simp) qfr_rf), fun i hi => ?_⟩
      by_cases ci : i = k
      · subst ci
        rw [wJ_at]
      · rw [wJ_ne (by omega)]
        exact gv i (by omega)
    · rintro z ⟨G, rfl, fG, gv⟩
      show qW (f_X3_settle_b60 (nn (gH s)) G) _
      unfold f_X3_settle_b60
      rw [(fG.1 14 2 rfl).1, (f.1 14 2 rfl).1, e2, if_pos ((nn_le (by omega) (by omega)).mpr (by omega)), qup_s, qW_some]
      refine ⟨⟨?_, ?_, ?_, ?_, ?_, ?_⟩, ⟨?_, ?_⟩, fun i hi => ⟨?_, ?_, gv i hi⟩, fun i hi => ?_, fun i hi => ?_⟩
      · rw [(fG.1 14 0 rfl).1, (f.1 14 0 rfl).1]; exact a0
      · rw [(fG.1 14 1 rfl).1, (f.1 14 1 rfl).1]; exact a1
      · rw [(fG.1 14 2 rfl).1, (f.1 14 2 rfl).1]; exact a2
      · rw [(fG.1 14 3 rfl).1, (f.1 14 3 rfl).1]; exact a3
      · rw [(fG.1 14 4 rfl).1, (f.1 14 4 rfl).1]; exact a4
      · rw [(fG.1 14 5 rfl).1, (f.1 14 5 rfl).1]; exact a5
      · rw [(fG.1 14 6 rfl).2.1]; exact g6
      · rw [(fG.1 14 7 rfl).2.1]; exact g7
      · rw [(fG.1 15 i rfl).1, (f.1 15 i rfl).1]; exact (c i hi).1
      · rw [(fG.1 16 i rfl).1, (f.1 16 i rfl).1]; exact (c i hi).2
      · rw [(fG.1 18 i rfl).2.1, (f.1 18 i rfl).2.1]; exact d i hi
      · rw [(fG.1 19 i rfl).1, (f.1 19 i rfl).1]; exact e i hi
  · rw [wJ_ne (by omega)]
    refine b.trans (mkm_congr (fun q hq => ?_))
    show _ = (_ && !false)
    simp
/-! faults are numbers above 0 -/
theorem pBd_l {α β : Type} {r : Nat ⊕ α} {k : α → Nat ⊕ β} {f : Nat} (h : pBd r k = .inl f) : r = .inl f ∨ ∃ a, r = .inr a ∧ k a = .inl f := by
  cases r with
  | inl g =>
    have h : (Sum.inl g : Nat ⊕ β) = .inl f := h
    exact .inl (by rw [Sum.inl.inj h])
  | inr a => exact .inr ⟨a, rfl, h⟩
def erB (n f : Nat) : Prop := 0 < f ∧ f < 10000 + 8 * n
theorem ER_b {n q c : Nat} (h : q ≤ n) (hc : c ≤ 5) : erB n (ER q c) := by unfold erB ER; omega
theorem pSq_er {B : Nat → Nat} {n p f : Nat} {s : Sg} (h : pSq B n s p = .inl f) (hp : p ≤ n) : erB n f := by
  rcases pBd_l h with h | ⟨⟨a, e1⟩, h1, h⟩
  · exact pNum_er h hp
  · have a1 := pNum_ok h1 hp
    rcases pBd_l h with h | ⟨⟨b, e2⟩, h2, h⟩
    · exact pNum_er h (show e1 ≤ n by omega)
    · cases h
theorem pSq_e {B : Nat → Nat} {n p : Nat} {s : Sg} {a : Nat × Nat × Nat} (h : pSq B n s p = .inr a) (hp : p ≤ n) : a.2.2 ≤ n := by
  obtain ⟨⟨a, e1⟩, h1, h⟩ := pBd_r h
  obtain ⟨⟨b, e2⟩, h2, h⟩ := pBd_r h
  have a1 := pNum_ok h1 hp
  have a2 := pNum_ok h2 (show e1 ≤ n by omega)
  have h := Sum.inr.inj h
  rw [← h]
  exact a2.2.2.2.1
theorem pBox_er {B : Nat → Nat} {n p f : Nat} {s : Sg} (h : pBox B n s p = .inl f) (hp : p ≤ n) : erB n f := by
  rcases pBd_l h with h | ⟨a, h1, h⟩
  · exact pSq_er h hp
  · have a1 := pSq_e h1 hp
    rcases pBd_l h with h | ⟨⟨b, e2⟩, h2, h⟩
    · exact pNum_er h a1
    · have a2 := pNum_ok h2 a1
      rcases pBd_l h with h | ⟨⟨b, e2⟩, h2, h⟩
      · exact pNum_er h (show e2 ≤ n by omega)
      · cases h
theorem clP_er {B : Nat → Nat} {n cnt p f : Nat} {s : Sg} (h : clP B n s cnt p = .inl f) (hp : p ≤ n) : erB n f := by
  have hskn := sk_le (B := B) hp
  unfold clP at h
  cases ha : amN B n (sk B n p) [5, 6, 7, 8, 9] 0 with
  | none => rw [ha] at h; rw [← Sum.inl.inj h]; exact ER_b hskn (by omega)
  | some k =>
    rw [ha] at h
    have h : (if fulL s cnt k then .inl (ER (sk B n p) 4) else if k = 0 then cWide B n s (sk B n p + 4) else if k = 1 then cWood B n s (sk B n p + 4) else if k = 2 then cHill B n s (sk B n p + 4) else if k = 3 then cRoad B n s (sk B n p + 4) else cSort B n s (sk B n p + 4)) = (.inl f : Nat ⊕ (Sg × Nat)) := h
    obtain ⟨k1, k2, w, k3, k4⟩ := amN_lt ha
    have hw : (wrd w).length = 4 := by
      rw [Nat.sub_zero] at k3
      rw [List.length_cons, List.length_cons, List.length_cons, List.length_cons, List.length_cons, List.length_nil] at k2
      have : k = 0 ∨ k = 1 ∨ k = 2 ∨ k = 3 ∨ k = 4 := by omega
      rcases this with rfl | rfl | rfl | rfl | rfl <;> (have := Option.some.inj k3; subst this; decide)
    have h4 : sk B n p + 4 ≤ n := by
      have := mtc_len k4
      rw [hw] at this
      have := wd_le (B := B) hskn
      omega
    have h4s := sk_le (B := B) h4
    by_cases cf : fulL s cnt k = true
    · rw [if_pos cf] at h; rw [← Sum.inl.inj h]; exact ER_b hskn (by omega)
    · rw [if_neg cf] at h
      by_cases c0 : k = 0
      · rw [if_pos c0] at h
        rcases pBd_l h with h | ⟨⟨a, e1⟩, h1, h⟩
        · exact pNum_er h h4
        · have a1 := pNum_ok h1 h4
          rcases pBd_l h with h | ⟨⟨b, e2⟩, h2, h⟩
          · exact pNum_er h (show e1 ≤ n by omega)
          · cases h
      · rw [if_neg c0] at h
        by_cases c1 : k = 1
        · rw [if_pos c1] at h
          rcases pBd_l h with h | ⟨a, h1, h⟩
          · exact pBox_er h h4
          · cases h
        · rw [if_neg c1] at h
          by_cases c2 : k = 2
          · rw [if_pos c2] at h
            rcases pBd_l h with h | ⟨a, h1, h⟩
            · exact pSq_er h h4
            · have a1 := pSq_e h1 h4
              by_cases c3 : hon s (6 * a.2.1 + a.1) = -1
              · rw [if_pos c3] at h
                rcases pBd_l h with h | ⟨a, h1, h⟩
                · exact pNum_er h a1
                · cases h
              · rw [if_neg c3] at h; rw [← Sum.inl.inj h]; exact ER_b h4s (by omega)
          · rw [if_neg c2] at h
            by_cases c3 : k = 3
            · rw [if_pos c3] at h
              rcases pBd_l h with h | ⟨a, h1, h⟩
              · exact pBox_er h h4
              · by_cases c5 : a.1 = a.2.2.1 ∨ a.2.1 = a.2.2.2.1
                · rw [if_pos c5] at h; cases h
                · rw [if_neg c5] at h; rw [← Sum.inl.inj h]; exact ER_b h4s (by omega)
            · rw [if_neg c3] at h
              rcases pBd_l h with h | ⟨a, h1, h⟩
              · exact pNum_er h h4
              · by_cases c5 : nT s + a.1 ≤ 4
                · rw [if_pos c5] at h; cases h
                · rw [if_neg c5] at h; rw [← Sum.inl.inj h]; exact ER_b h4s (by omega)
theorem clP_24 {B : Nat → Nat} {n p : Nat} {s : Sg} {a : Sg × Nat} : clP B n s 24 p ≠ .inr a := by
  intro h
  unfold clP at h
  cases ha : amN B n (sk B n p) [5, 6, 7, 8, 9] 0 with
  | none => rw [ha] at h; cases h
  | some k =>
    rw [ha] at h
    have h : (if fulL s 24 k then .inl (ER (sk B n p) 4) else if k = 0 then cWide B n s (sk B n p + 4) else if k = 1 then cWood B n s (sk B n p + 4) else if k = 2 then cHill B n s (sk B n p + 4) else if k = 3 then cRoad B n s (sk B n p + 4) else cSort B n s (sk B n p + 4)) = (.inr a : Nat ⊕ (Sg × Nat)) := h
    rw [if_pos (by unfold fulL; rfl)] at h
    cases h
theorem ldP_er {B : Nat → Nat} {n : Nat} : ∀ {fu cnt p f : Nat} {s : Sg}, ldP B n fu s cnt p = .inl f → DC s cnt → p ≤ n → erB n f
  | 0, cnt, p, f, s, h, d, hp => by rw [← Sum.inl.inj h]; unfold erB; omega
  | fu + 1, cnt, p, f, s, h, d, hp => by
    rcases pBd_l h with h | ⟨⟨t, e⟩, h1, h⟩
    · exact clP_er h hp
    · obtain ⟨d2, -, he⟩ := clP_ok d hp h1
      have hse := sk_le (B := B) he
      have h : (if n ≤ sk B n e then .inr t else if B (sk B n e) = 59 then ldP B n fu t (cnt + 1) (sk B n e + 1) else .inl (ER (sk B n e) 0)) = (.inl f : Nat ⊕ Sg) := h
      by_cases c1 : n ≤ sk B n e
      · rw [if_pos c1] at h; cases h
      · rw [if_neg c1] at h
        by_cases c2 : B (sk B n e) = 59
        · rw [if_pos c2] at h
          exact ldP_er h d2 (by omega)
        · rw [if_neg c2] at h; rw [← Sum.inl.inj h]; exact ER_b hse (by omega)
theorem ldP_ok {B : Nat → Nat} {n : Nat} : ∀ {fu cnt p : Nat} {s t : Sg}, ldP B n fu s cnt p = .inr t → DC s cnt → p ≤ n → DF t ∧ 2 ≤ gC t ∧ 2 ≤ gR t
  | 0, cnt, p, s, t, h, d, hp => by cases h
  | fu + 1, cnt, p, s, t, h, d, hp => by
    obtain ⟨⟨u, e⟩, h1, h⟩ := pBd_r h
    obtain ⟨d2, -, he⟩ := clP_ok d hp h1
    have hse := sk_le (B := B) he
    have h : (if n ≤ sk B n e then .inr u else if B (sk B n e) = 59 then ldP B n fu u (cnt + 1) (sk B n e + 1) else .inl (ER (sk B n e) 0)) = (.inr t : Nat ⊕ Sg) := h
    by_cases c1 : n ≤ sk B n e
    · rw [if_pos c1] at h
      have := Sum.inr.inj h
      subst this
      exact ⟨d2.1, d2.2.2 (by omega)⟩
    · rw [if_neg c1] at h
      by_cases c2 : B (sk B n e) = 59
      · rw [if_pos c2] at h
        exact ldP_ok h d2 (by omega)
      · rw [if_neg c2] at h; cases h
/-- all clauses -/
theorem tkE_sg {B : Nat → Nat} {n p : Nat} (h : p < n) (hb : B p = 59) : tkE B n p = p + 1 := by
  unfold tkE
  have hd : ¬ isD B n p = true := fun q => by
    unfold isD at q
    rw [Bool.and_eq_true, decide_eq_true_eq, decide_eq_true_eq, hb] at q
    omega
  have hl : ¬ isL B n p = true := fun q => by
    unfold isL at q
    rw [Bool.and_eq_true, decide_eq_true_eq, decide_eq_true_eq, hb] at q
    omega
  have ht : ¬ two B n p = true := fun q => by
    unfold two at q
    rw [Bool.and_eq_true, decide_eq_true_eq, hb] at q
    omega
  rw [if_neg (by omega), if_neg hd, if_neg hl, if_neg ht]
theorem tkK_0 {B : Nat → Nat} {n p : Nat} (hp : p ≤ n) : tkK B n p = 0 ↔ n ≤ p := by
  unfold tkK
  by_cases c : n ≤ p
  · rw [if_pos c]; exact ⟨fun _ => c, fun _ => rfl⟩
  · rw [if_neg c]
    refine ⟨fun q => ?_, fun q => absurd q c⟩
    by_cases c1 : isD B n p = true
    · rw [if_pos c1] at q; cases q
    · rw [if_neg c1] at q
      by_cases c2 : isL B n p = true
      · rw [if_pos c2] at q; cases q
      · rw [if_neg c2] at q; cases q
theorem k_readLoop {B : Nat → Nat} {n : Nat} : ∀ (fu cnt p : Nat) (s : Sg) (h : qa_M), cnt + fu = 25 → cnt ≤ 24 → DC s cnt → CS B n s p h → qW (f_X4_read_b16_loop (nn cnt) h) (fun z => match ldP B n fu s cnt p with
      | .inl f => z.1 = nn f
      | .inr t => z.1 = 0 ∧ RelL 14 t z.2)
  | 0, cnt, p, s, h, h1, h2, _, _ => by omega
  | fu + 1, cnt, p, s, h, h1, h2, d, c => by
    have h400 := c.1.2.1
    have hp := c.2.2.2.2
    unfold f_X4_read_b16_loop
    refine qW_lpin ?_
    show qW (f_X4_read_b16 (nn cnt) h) _
    unfold f_X4_read_b16
    rw [if_neg (fun q => by rw [show (24 : Int32) = nn 24 from rfl, nn_lt (by omega) (by omega)] at q; omega), qW_bn]
    refine qW_mono (k_readClause d h2 c) ?_
    rintro ⟨x, g⟩ hz
    cases q : clP B n s cnt p with
    | inl f =>
      rw [q] at hz
      have z1 : x = 0 := hz.1
      have z2 : g.1 1 7 = nn f := hz.2
      subst z1
      show qW (if (0 : Int32) = 0 then qup (f_X4_read_b30 g) else _) _
      unfold f_X4_read_b30
      rw [if_pos rfl, qup_s, qW_some]
      have e0 : ldP B n (fu + 1) s cnt p = .inl f := by simp only [ldP, pBd, q]
      rw [e0]
      exact z2
    | inr a =>
      obtain ⟨t, e⟩ := a
      obtain ⟨d2, hpe, he⟩ := clP_ok d hp q
      rw [q] at hz
      have z1 : x = 1 := hz.1
      have cg : CS B n t e g := hz.2
      subst z1
      have hse := sk_le (B := B) he
      have tk := cg.2.1
      show qW (if (1 : Int32) = 0 then _ else if g.1 1 3 = 0 then qup (f_X4_read_b48 g) else qbn (m_X9_isSign 59 g) _) _
      rw [if_neg (by decide), tk.2.1]
      have e0 : ldP B n (fu + 1) s cnt p = if n ≤ sk B n e then .inr t else if B (sk B n e) = 59 then ldP B n fu t (cnt + 1) (sk B n e + 1) else .inl (ER (sk B n e) 0) := by simp only [ldP, pBd, q]
      rw [e0]
      by_cases c1 : n ≤ sk B n e
      · rw [if_pos (by rw [(tkK_0 hse).mpr c1]; rfl), if_pos c1]
        unfold f_X4_read_b48
        rw [qW_up, qW_bv]
        refine qW_mono (k_settle d2.1.1 (d2.2.2 (by omega)).1 (d2.2.2 (by omega)).2 cg.2.2.1) ?_
        intro g2 r2
        rw [qW_some]
        exact ⟨rfl, r2⟩
      · have hk3 := tkK_le (B := B) (n := n) (p := sk B n e)
        rw [if_neg (fun q => by rw [show (0 : Int32) = nn 0 from rfl, nn_eq (by omega) (by omega)] at q; exact c1 ((tkK_0 hse).mp q)), if_neg c1, show (59 : Int32) = nn 59 from rfl, k_isSign cg.1 tk (by omega) (by omega) (by omega) (by omega), qbn_s]
        unfold sgI
        rw [decide_eq_true (by omega), Bool.true_and]
        by_cases c2 : B (sk B n e) = 59
        · have hcn : cnt ≠ 24 := fun q2 => by rw [q2] at q; exact clP_24 q
          rw [if_pos c2, decide_eq_true c2, if_neg (by decide), qW_bv]
          refine qW_fr (k_scan cg.1 (p := sk B n e + 1) (by rw [tk.2.2.2.1, tkE_sg (by omega) c2]) (by omega)) (fun z e => fr_X9_scan _ e) ?_
          intro g2 tg f1
          have f1 : qfr wSc g g2 := f1
          rw [qbd_e, nn_add1, qW_some]
          exact k_readLoop fu (cnt + 1) (sk B n e + 1) t g2 (by omega) (by omega) d2 ⟨TpC_fr cg.1 f1 rfl (fun j => rfl), tg, RelD_fr cg.2.2.1 f1 (fun b j h1 h2 => by unfold wSc inW; simp; omega), by rw [(f1.1 1 7 rfl).1]; exact cg.2.2.2.1, by omega⟩
        · rw [if_neg c2, decide_eq_false c2, if_pos (by decide)]
          unfold f_X4_read_b69
          rw [show (0 : Int32) = nn 0 from rfl, k_fail cg.2.2.2.1 tk.1, qbn_s, qup_s, qW_some]
          show (qw_I g 1 7 (nn (ER (sk B n e) 0))).1 1 7 = nn (ER (sk B n e) 0)
          exact wI_at
/-- the class reads a land -/
theorem k_readLand {B : Nat → Nat} {n : Nat} {h : qa_M} {s : Sg} (z0 : Z0 s) (t : TpC B n h) : qW (m_X4_read h) (fun z => match ldP B n 25 s 0 0 with
      | .inl f => z.1 = nn f
      | .inr t => z.1 = 0 ∧ RelL 14 t z.2) := by
  have h400 := t.2.1
  unfold m_X4_read m_X3_clear
  simp only [qbd_e, qbv_s]
  obtain ⟨g, hg⟩ : ∃ g, g = qw_J (qw_J (qw_I (qw_I (qw_I (qw_I (qw_I (qw_I h 14 0 0) 14 1 0) 14 2 0) 14 3 0) 14 4 0) 14 5 0) 14 6 0) 14 7 0 := ⟨_, rfl⟩
  rw [← hg]
  have f : qfr [(14, 0)] h g := by
    rw [hg]
    exact qfr_J0 rfl (by simp) (qfr_J0 rfl (by simp) (qfr_I0 rfl (by simp) (qfr_I0 rfl (by simp) (qfr_I0 rfl (by simp) (qfr_I0 rfl (by simp) (qfr_I0 rfl (by simp) (qfr_I0 rfl (by simp) qfr_rf)))))))
  have r : RelD s g := by
    obtain ⟨g0, g1, g2, g3, g4, g5⟩ := z0.g
    rw [hg]
    refine ⟨⟨?_, ?_, ?_, ?_, ?_, ?_⟩, ?_, fun i hi => by rw [g2] at hi; omega, fun i hi => by rw [g3] at hi; omega, fun i hi => by rw [g4] at hi; omega⟩
    · rw [z0.1]; rfl
    · rw [z0.1]; rfl
    · rw [z0.1]; rfl
    · rw [z0.1]; rfl
    · rw [z0.1]; rfl
    · unfold nT; rw [g4]; rfl
    · rw [wJ_at]
      refine (tb_eq0.mpr (fun k hk => ?_)).symm
      rw [tb_mkm (by omega)]
      by_cases c : k < 36
      · rw [z0.2 k c]
        simp
      · rw [decide_eq_false c]
        rfl
  unfold m_X9_begin
  rw [qbd_e, qbd_e, qW_bv, qW_bv]
  obtain ⟨g2, hg2⟩ : ∃ g2, g2 = qw_I (qw_I g 1 2 0) 1 7 0 := ⟨_, rfl⟩
  rw [← hg2]
  have f2 : qfr [(1, 3), (1, 8)] g g2 := by
    rw [hg2]
    exact qfr_Ik rfl (by simp) (qfr_Ik rfl (by simp) qfr_rf)
  have t2 := TpC_fr (TpC_fr t f rfl (fun j => rfl)) f2 rfl (fun j => rfl)
  refine qW_fr (k_scan t2 (p := 0) (by rw [hg2, wI_ne (by omega), wI_at]; rfl) (by omega)) (fun z e => fr_X9_scan _ e) ?_
  intro g3 tg f3
  have f3 : qfr wSc g2 g3 := f3
  rw [qW_some]
  refine k_readLoop 25 0 0 s g3 (by omega) (by omega) ⟨DF_0 z0, fun _ => z0, fun q => by omega⟩ ⟨TpC_fr t2 f3 rfl (fun j => rfl), tg, RelD_fr (RelD_fr r f2 (fun b j h1 h2 => by unfold inW; simp; omega)) f3 (fun b j h1 h2 => by unfold wSc inW; simp; omega), ?_, by omega⟩
  rw [(f3.1 1 7 rfl).1, hg2, wI_at]
