/-! A LAW IS READ: the class's whole way -/
def LWc (H : qa_M) (a : Nat) (r : Nat ⊕ (List LCl × Cd)) (z : Int32 × qa_M) : Prop := match r with
  | .inl f => z.1 = nn f ∧ qfr (wLa a) H z.2
  | .inr r => z.1 = 0 ∧ CLp a r.1 z.2 ∧ CM a r.2 z.2 ∧ qfr (wLa a) H z.2
theorem LQ_scan {H : qa_M} {a : Nat} {B : Nat → Nat} {n p e : Nat} {E : Cd} {c : Nat} {Cs : List LCl} {h : qa_M} (hA : qLaw a) (lq : LQ H a B n p E c Cs h) (he : tkE B n (sk B n p) = e) (hp : p ≤ n) : qW (m_X9_scan h) (LQ H a B n e E c Cs) := by
  have h83 := qLaw_g hA
  refine qW_fr (LC_scan hA lq.1 he hp) (fun z e => fr_X9_scan _ e) ?_
  intro g lc f
  have f1 : qfr wSc h g := f
  have w : ∀ b j, 2 ≤ b → inW wSc b j = false := fun b j hb => by unfold wSc inW; simp; omega
  refine ⟨lc, CLp_fr lq.2.1 f1 (w _ _ (by omega)) (w _ _ (by omega)) (fun b j h1 h2 => w _ _ (by omega)), qfr_tr lq.2.2 (qfr_sub ?_ f1)⟩
  unfold wSc
  exact qsub_c (by simp [wLa]) (qsub_c (by simp [wLa]) (qsub_c (by simp [wLa]) (qsub_c (by simp [wLa]) qsub_nil)))
theorem LQ_fail {H : qa_M} {a : Nat} {B : Nat → Nat} {n p q x : Nat} {E : Cd} {c : Nat} {Cs : List LCl} {h : qa_M} (lq : LQ H a B n p E c Cs h) (hq : q = sk B n p) : m_X9_fail (nn x) h = some (0, qw_I h 1 7 (nn (ER q x))) ∧ qfr (wLa a) H (qw_I h 1 7 (nn (ER q x))) := ⟨k_fail lq.1.2.2.1 (by rw [hq]; exact lq.1.2.1.1), qfr_tr lq.2.2 (qfr_Ik rfl (by simp [wLa]) qfr_rf)⟩
theorem LQ_at {h : qa_M} {v : Int32} : (qw_I h 1 7 v).1 1 7 = v := wI_at
theorem qw_Rat {h : qa_M} {a : Nat} : (qw_R h 21 1 (a + 1)).2.2.1 21 1 = a + 1 := by
  show (if (21 = 21 ∧ 1 = 1) then a + 1 else h.2.2.1 21 1) = a + 1
  rw [if_pos ⟨rfl, rfl⟩]
theorem k_lawLoop {H : qa_M} {a : Nat} {B : Nat → Nat} {n : Nat} (hA : qLaw a) : ∀ (fu p : Nat) (E : Cd) (c : Nat) (Cs : List LCl) (h : qa_M), Cs.length + fu = 13 → Cs.length ≤ 12 → LI n p E c Cs → LQ H a B n p E c Cs h → qW (f_X6_read_b26_loop a (nn Cs.length) h) (LWc H a (lwP B n fu p E c Cs))
  | 0, p, E, c, Cs, h, h1, h2, _, _ => by omega
  | fu + 1, p, E, c, Cs, h, h1, h2, l, lq => by
    obtain ⟨U, g⟩ := l.1
    have hp := g.2.2.2.2.2.1
    have hsk := sk_ge (B := B) (n := n) (p := p)
    have hskn := sk_le (B := B) hp
    -- behind a clause
    have after : ∀ (r : LCl × Nat × Cd × Nat) (g2 : qa_M), lcP B n Cs.length p E c = .inr r → LQ H a B n r.2.1 r.2.2.1 r.2.2.2 (Cs ++ [r.1]) g2 → qW (f_X6_read_b131 a (nn Cs.length) g2) (Sum.elim (fun s2 => qW (qlp (fun sz : Int32 × qa_M => f_X6_read_b26 a sz.1 sz.2) s2) (LWc H a (lwP B n (fu + 1) p E c Cs))) (LWc H a (lwP B n (fu + 1) p E c Cs))) := by
      intro r g2 q lq2
      obtain ⟨l2, hlt, hn12⟩ := lcP_ok l q
      obtain ⟨U2, gr⟩ := l2.1
      have hrn := gr.2.2.2.2.2.1
      have hse := sk_le (B := B) hrn
      have tk := lq2.1.2.1
      have h400 := lq2.1.1.2.1
      have e0 : lwP B n (fu + 1) p E c Cs = if n ≤ sk B n r.2.1 then .inr (Cs ++ [r.1], r.2.2.1) else if B (sk B n r.2.1) = 59 then lwP B n fu (sk B n r.2.1 + 1) r.2.2.1 r.2.2.2 (Cs ++ [r.1]) else .inl (ER (sk B n r.2.1) 0) := by simp only [lwP, pBd, q]
      rw [e0]
      unfold f_X6_read_b131
      rw [tk.2.1]
      by_cases c1 : n ≤ sk B n r.2.1
      · rw [if_pos (by rw [(tkK_0 hse).mpr c1]; rfl), if_pos c1, qup_s, qW_some]
        exact ⟨rfl, lq2.2.1, lq2.1.2.2.2.1, lq2.2.2⟩
      · have hk3 := tkK_le (B := B) (n := n) (p := sk B n r.2.1)
        rw [if_neg (fun q => by rw [show (0 : Int32) = nn 0 from rfl, nn_eq (by omega) (by omega)] at q; exact c1 ((tkK_0 hse).mp q)), if_neg c1, show (59 : Int32) = nn 59 from rfl, k_isSign lq2.1.1 tk (by omega) (by omega) (by omega) (by omega), qbn_s]
        unfold sgI
        rw [decide_eq_true (by omega), Bool.true_and]
        by_cases c2 : B (sk B n r.2.1) = 59
        · rw [if_pos c2, decide_eq_true c2, if_neg (by decide), qW_bv]
          refine qW_mono (LQ_scan hA lq2 (tkE_sg (by omega) c2) hrn) ?_
          intro g3 lq3
          rw [qbd_e, nn_add1, qW_some]
          have l3 : LI n (sk B n r.2.1 + 1) r.2.2.1 r.2.2.2 (Cs ++ [r.1]) := ⟨⟨U2, gr.up (by have := sk_ge (B := B) (n := n) (p := r.2.1); omega) (by omega)⟩, l2.2⟩
          have := k_lawLoop hA fu (sk B n r.2.1 + 1) r.2.2.1 r.2.2.2 (Cs ++ [r.1]) g3 (by rw [List.length_append]; show Cs.length + 1 + fu = 13; omega) (by rw [List.length_append]; show Cs.length + 1 ≤ 12; omega) l3 lq3
          rw [List.length_append] at this
          exact this
        · obtain ⟨a1, a2⟩ := LQ_fail (q := sk B n r.2.1) (x := 0) lq2 rfl
          rw [if_neg c2, decide_eq_false c2, if_pos (by decide)]
          unfold f_X6_read_b155
          rw [show m_X9_fail 0 g2 = _ from a1, qbn_s, qup_s, qW_some]
          exact ⟨LQ_at (h := g2) (v := nn (ER (sk B n r.2.1) 0)), a2⟩
    unfold f_X6_read_b26_loop
    refine qW_lpin ?_
    show qW (f_X6_read_b26 a (nn Cs.length) h) _
    unfold f_X6_read_b26
    rw [if_neg (fun q => by rw [show (12 : Int32) = nn 12 from rfl, nn_lt (by omega) (by omega)] at q; omega), k_among lq.1.1 lq.1.2.1 (by omega), qbn_s, qbd_e, show wls 1 = [10, 11] from rfl, am_2]
    have erl : ∀ f, lcP B n Cs.length p E c = .inl f → lwP B n (fu + 1) p E c Cs = .inl f := fun f q => by simp only [lwP, pBd, q]
    by_cases c1 : wis B n (sk B n p) 10 = true
    · rw [if_pos c1, if_neg (by decide)]
      have hl := wis_le hskn c1
      rw [show (wrd 10).length = 5 from rfl] at hl
      by_cases c12 : Cs.length = 12
      · have q0 : lcP B n Cs.length p E c = .inl (ER (sk B n p) 4) := by unfold lcP; rw [if_pos c1, if_pos c12]
        obtain ⟨a1, a2⟩ := LQ_fail (q := sk B n p) (x := 4) lq rfl
        rw [if_neg (fun q => by rw [show (12 : Int32) = nn 12 from rfl, nn_lt (by omega) (by omega)] at q; omega)]
        unfold f_X6_read_b70
        rw [show m_X9_fail 4 h = _ from a1, qbn_s, qup_s, qW_some, erl _ q0]
        exact ⟨LQ_at (h := h) (v := nn (ER (sk B n p) 4)), a2⟩
      · have q0 : lcP B n Cs.length p E c = pBd (pNum B n (sk B n p + 5) 0 3) (fun a => pBd (pNum B n a.2 0 3) (fun b => pBd (pNum B n b.2 1 5) (fun d => .inr ((a.1, b.1, d.1, E.length, E.length, false), d.2, E, c)))) := by unfold lcP; rw [if_pos c1, if_neg c12]
        rw [if_pos (by exact (nn_lt (b := 12) (by omega) (by omega)).mpr (by omega)), qW_bv]
        refine qW_mono (LQ_scan hA lq (tkE_w (by omega) c1) hp) ?_
        intro g1 lq1
        rw [if_pos rfl, qW_bn]
        refine qW_mono (k_readApart hA lq1 (by rw [show (wrd 10).length = 5 from rfl]; omega) (by omega)) ?_
        rintro ⟨x, g2⟩ hz
        rw [show (wrd 10).length = 5 from rfl, ← q0] at hz
        cases q : lcP B n Cs.length p E c with
        | inl f =>
          rw [q] at hz
          obtain ⟨⟨z1, z2⟩, z3⟩ := hz
          have z1 : x = 0 := z1
          have z2 : g2.1 1 7 = nn f := z2
          subst z1
          unfold f_X6_read_b123
          rw [if_pos rfl, qup_s, qW_some, erl f q]
          exact ⟨z2, z3⟩
        | inr r =>
          rw [q] at hz
          obtain ⟨z1, lq2⟩ := hz
          have z1 : x = 1 := z1
          subst z1
          dsimp only
          rw [if_neg (by decide)]
          exact after r g2 q lq2
    · rw [if_neg c1]
      by_cases c2 : wis B n (sk B n p) 11 = true
      · rw [if_pos c2, if_neg (by decide)]
        have hl := wis_le hskn c2
        rw [show (wrd 11).length = 3 from rfl] at hl
        by_cases c12 : Cs.length = 12
        · have q0 : lcP B n Cs.length p E c = .inl (ER (sk B n p) 4) := by unfold lcP; rw [if_neg c1, if_pos c2, if_pos c12]
          obtain ⟨a1, a2⟩ := LQ_fail (q := sk B n p) (x := 4) lq rfl
          rw [if_neg (fun q => by rw [show (12 : Int32) = nn 12 from rfl, nn_lt (by omega) (by omega)] at q; omega)]
          unfold f_X6_read_b70
          rw [show m_X9_fail 4 h = _ from a1, qbn_s, qup_s, qW_some, erl _ q0]
          exact ⟨LQ_at (h := h) (v := nn (ER (sk B n p) 4)), a2⟩
        · have q0 : lcP B n Cs.length p E c = pBd (pNum B n (sk B n p + 3) 0 3) (fun a => pBd (pRec B n 31 true 0 a.2 E c) (fun r => .inr ((a.1, 0, 0, E.length, r.2.1.length, true), r.1, r.2.1, r.2.2))) := by unfold lcP; rw [if_neg c1, if_pos c2, if_neg c12]
          rw [if_pos (by exact (nn_lt (b := 12) (by omega) (by omega)).mpr (by omega)), qW_bv]
          refine qW_mono (LQ_scan hA lq (tkE_w (by omega) c2) hp) ?_
          intro g1 lq1
          rw [if_neg (by decide)]
          rw [show (wrd 11).length = 3 from rfl] at lq1
          refine k_readBar hA (g.up (p2 := sk B n p + 3) (by omega) (by omega)) lq1 (by omega) ?_ ?_
          · intro f g2 q e7 fr
            rw [← q0] at q
            show LWc H a _ (nn f, g2)
            rw [erl f q]
            exact ⟨rfl, fr⟩
          · intro r g2 q lq2
            rw [← q0] at q
            exact after r g2 q lq2
      · have q0 : lcP B n Cs.length p E c = .inl (ER (sk B n p) 0) := by unfold lcP; rw [if_neg c1, if_neg c2]
        obtain ⟨a1, a2⟩ := LQ_fail (q := sk B n p) (x := 0) lq rfl
        rw [if_neg c2, if_pos rfl]
        unfold f_X6_read_b47
        rw [show m_X9_fail 0 h = _ from a1, qbn_s, qup_s, qW_some, erl _ q0]
        exact ⟨LQ_at (h := h) (v := nn (ER (sk B n p) 0)), a2⟩
/-- the class reads a law -/
theorem k_readLaw {a : Nat} {B : Nat → Nat} {n : Nat} {h : qa_M} (hA : qLaw a) (t : TpC B n h) : qW (m_X6_read a h) (LWc (qw_R h 21 1 (a + 1)) a (lwP B n 13 0 [] 0 [])) := by
  have h83 := qLaw_g hA
  have h400 := t.2.1
  unfold m_X6_read
  rw [qbd_e, qw_Rat, qnn_s, qpr_t (by exact hA)]
  obtain ⟨H, hH⟩ : ∃ H, H = qw_R h 21 1 (a + 1) := ⟨_, rfl⟩
  rw [← hH]
  have hr : H.2.2.1 21 1 = a + 1 := by rw [hH]; exact qw_Rat
  have tH : TpC B n H := by rw [hH]; exact t
  unfold m_X5_clear
  rw [qbd_e, qbd_e, qbd_e, qbv_s, qbd_e]
  unfold m_X9_begin
  rw [qbd_e, qbd_e, qW_bv, qW_bv]
  obtain ⟨G, hG⟩ : ∃ G, G = qw_I (qw_I (qw_I (qw_I (qw_I (qw_I H a 0 0) a 4 0) a 8 0) 21 2 0) 1 2 0) 1 7 0 := ⟨_, rfl⟩
  rw [← hG]
  have f1 : qfr [(1, 3), (1, 8), (21, 3), (a, 0)] H G := by
    rw [hG]
    exact qfr_Ik rfl (by simp) (qfr_Ik rfl (by simp) (qfr_Ik rfl (by simp) (qfr_I0 rfl (by simp) (qfr_I0 rfl (by simp) (qfr_I0 rfl (by simp) qfr_rf)))))
  have f2 : qfr (wLa a) H G := qfr_sub (qsub_c (by simp [wLa]) (qsub_c (by simp [wLa]) (qsub_c (by simp [wLa]) (qsub_c (by simp [wLa]) qsub_nil)))) f1
  have tG := TpC_fr tH f1 (by unfold inW; simp; omega) (fun j => by unfold inW; simp; omega)
  refine qW_fr (k_scan tG (p := 0) (by rw [hG, wI_ne (by omega), wI_at]; rfl) (by omega)) (fun z e => fr_X9_scan _ e) ?_
  intro g3 tg f3
  have f3 : qfr wSc G g3 := f3
  have w : ∀ b j, 2 ≤ b → inW wSc b j = false := fun b j hb => by unfold wSc inW; simp; omega
  rw [qW_some, qbd_e]
  refine k_lawLoop hA 13 0 [] 0 [] g3 (by decide) (by decide) (LI_0 h400) ⟨⟨TpC_fr tG f3 rfl (fun j => rfl), tg, ?_, ⟨?_, fun i hi => absurd hi (Nat.not_lt_zero _)⟩, ?_, ?_⟩, ⟨?_, ?_, fun i hi => absurd hi (Nat.not_lt_zero _), fun i hi => absurd hi (Nat.not_lt_zero _)⟩, qfr_tr f2 (qfr_sub ?_ f3)⟩
  · rw [(f3.1 1 7 rfl).1, hG, wI_at]
  · rw [(f3.1 a 8 (w _ _ (by omega))).1, hG, wI_ne (by omega), wI_ne (by omega), wI_ne (by omega), wI_at]; rfl
  · rw [(f3.1 21 2 rfl).1, hG, wI_ne (by omega), wI_ne (by omega), wI_at]; rfl
  · rw [(f3.1 21 1 rfl).2.2, (f1.1 21 1 (by unfold inW; simp; omega)).2.2, hr]
  · rw [(f3.1 a 0 (w _ _ (by omega))).1, hG, wI_ne (by omega), wI_ne (by omega), wI_ne (by omega), wI_ne (by omega), wI_ne (by omega), wI_at]; rfl
  · rw [(f3.1 a 4 (w _ _ (by omega))).1, hG, wI_ne (by omega), wI_ne (by omega), wI_ne (by omega), wI_ne (by omega), wI_at]; rfl
  · unfold wSc
    exact qsub_c (by simp [wLa]) (qsub_c (by simp [wLa]) (qsub_c (by simp [wLa]) (qsub_c (by simp [wLa]) qsub_nil)))
