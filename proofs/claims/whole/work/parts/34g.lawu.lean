/-! A LAW IS READ: the reference's comparisons -/
theorem r_cmp90F {B : Nat → Nat} {n f e : Nat} {x1 x2 s1 s2 : Int32} {h : qa_M} (r : LF B n f h) (hs : s1 + s2 = nn e) (he : e ≤ n) : qW (f_X12_compared_b90 x1 x2 s1 s2 h) (LF B n f) := by
  unfold f_X12_compared_b90 f_X12_compared_b139
  rw [qbd_e, hs, qW_bv]
  have r1 := LF_p (g := qw_I h 119 21 (nn e)) r (qfr_Ik rfl (by simp) qfr_rf) wI_at he
  refine qW_mono (r_sumF r1) ?_
  intro g rg
  have fin : ∀ x : Int32, qW (qbv (m_X12_entry x 0 g) (fun h140 : qa_M => some h140)) (LF B n f) := fun x => by
    rw [r_entryF rg, qbv_s, qW_some]
    exact rg
  refine qW_ite.mpr ⟨fun _ => fin _, fun _ => qW_ite.mpr ⟨fun _ => qW_ite.mpr ⟨fun _ => fin _, fun _ => fin _⟩, fun _ => qW_ite.mpr ⟨fun _ => fin _, fun _ => fin _⟩⟩⟩
theorem r_cmp90 {k : Nat} {B : Nat → Nat} {n p e : Nat} {E : Cd} {c m j : Nat} {U : List Bool} {O : List Nat} {h : qa_M} {x1 x2 s1 s2 : Int32} (hk : k < 4) (g : GI n e E c U m) (r : LR2 k B n p E c O h) (hs : s1 + s2 = nn e) (hj : ∀ h : qa_M, (if x1 = (61 : Int32) then f_X12_compared_b139 (6 : Int32) h else if x1 = (60 : Int32) then (if x2 = 0 then f_X12_compared_b139 (4 : Int32) h else f_X12_compared_b139 (5 : Int32) h) else (if x2 = 0 then f_X12_compared_b139 (8 : Int32) h else f_X12_compared_b139 (7 : Int32) h)) = f_X12_compared_b139 (nn j) h) :
    qW (f_X12_compared_b90 x1 x2 s1 s2 h) (RPo k B n O (pBd (pSum B n e E c) (fun t => .inr (t.1, t.2.1 ++ [(j, 0)], t.2.2)))) := by
  unfold f_X12_compared_b90
  rw [qbd_e, hs, qW_bv]
  have r1 := LR2_p (g := qw_I h 119 21 (nn e)) r (qfr_Ik rfl (by simp) qfr_rf) wI_at
  refine qW_mono (r_sum hk g r1) ?_
  intro g2 hz
  rw [hj]
  unfold f_X12_compared_b139
  cases q : pSum B n e E c with
  | inl f =>
    rw [q] at hz
    have hz : LF B n f g2 := hz
    rw [r_entryF hz, qbv_s, qW_some]
    exact hz
  | inr t =>
    rw [q] at hz
    have hz : LR2 k B n t.1 t.2.1 t.2.2 O g2 := hz
    have gt := (pSum_ok g q).1.1
    have hl := gt.len
    rw [qW_bv]
    refine qW_mono (r_entry (x := j) (v := 0) hk hz (by omega)) ?_
    intro g3 r3
    rw [qW_some]
    exact r3
theorem r_compared {k : Nat} {B : Nat → Nat} {n p : Nat} {E : Cd} {c m : Nat} {U : List Bool} {O : List Nat} {h : qa_M} (hk : k < 4) (g : GI n p E c U m) (r : LR2 k B n p E c O h) : qW (m_X12_compared h) (RPo k B n O (pCmp B n p E c)) := by
  unfold m_X12_compared
  rw [qW_bv]
  refine qW_mono (r_sum hk g r) ?_
  intro g1 hz
  have hp := g.2.2.2.2.2.1
  cases q : pSum B n p E c with
  | inl f =>
    rw [q] at hz
    have hz : LF B n f g1 := hz
    rw [pCmp_0 q]
    show qW _ (LF B n f)
    obtain ⟨p2, hp2, e2⟩ := hz.1.2.1
    have h400 := hz.1.1.2.1
    rw [r_sign hz.1.1 e2 (by omega), qbn_s, qbd_e]
    have hB : p2 < n → B p2 < 256 := fun q => (hz.1.1.2.2 _ q).1
    have b37 : ∀ c, c < 256 → sgn B n p2 = nn c → qW (f_X12_compared_b37 (sgn B n p2) g1) (LF B n f) := by
      intro c hc hs
      have hlt := ((sgn_eq hB hc).mp hs).1
      unfold f_X12_compared_b37
      rw [qW_bv]
      refine qW_mono (r_countF hz) ?_
      rintro g2 ⟨r2, e3⟩
      rw [qbd_e, e3, e2, nn_add1]
      have r3 := LF_p (g := qw_I g2 119 21 (nn (p2 + 1))) r2 (qfr_Ik rfl (by simp) qfr_rf) wI_at (by omega)
      have b75 : ∀ z : Int32, (z = 0 ∨ (z = 1 ∧ p2 + 1 < n)) → qW (f_X12_compared_b75 (sgn B n p2) z (qw_I g2 119 21 (nn (p2 + 1)))) (LF B n f) := by
        intro z hz2
        unfold f_X12_compared_b75
        rw [qbd_e, wI_at]
        rcases hz2 with rfl | ⟨rfl, hlt2⟩
        · rw [if_pos rfl]
          exact r_cmp90F r3 (e := p2 + 1) (nn_add (p2 + 1) 0) (by omega)
        · rw [if_neg (by decide)]
          exact r_cmp90F r3 (e := p2 + 2) (nn_add1 (p2 + 1)) (by omega)
      refine qW_ite.mpr ⟨fun _ => b75 0 (.inl rfl), fun _ => ?_⟩
      rw [r_sign r3.1.1 wI_at (by omega), qbn_s]
      refine qW_ite.mpr ⟨fun e6 => b75 1 (.inr ⟨rfl, ?_⟩), fun _ => b75 0 (.inl rfl)⟩
      exact ((sgn_eq (c := 61) (fun q => (r3.1.1.2.2 _ q).1) (by omega)).mp e6).1
    refine qW_ite.mpr ⟨fun e6 => b37 60 (by omega) e6, fun _ => qW_ite.mpr ⟨fun e6 => b37 61 (by omega) e6, fun _ => qW_ite.mpr ⟨fun e6 => b37 62 (by omega) e6, fun _ => ?_⟩⟩⟩
    rw [r_failsF hz.n0, qbv_s, qW_some]
    obtain ⟨⟨t, ⟨p, hp, e⟩, e2⟩, er, h7⟩ := hz
    exact ⟨⟨TpR_fr t (qfr_Ik (L := [(119, 23)]) rfl (by simp) qfr_rf) rfl (fun j => rfl), ⟨p, hp, by rw [wI_ne (by omega)]; exact e⟩, by rw [wI_at]; exact e2⟩, er, by rw [wI_ne (by omega)]; exact h7⟩
  | inr t =>
    rw [q] at hz
    have hz : LR2 k B n t.1 t.2.1 t.2.2 O g1 := hz
    obtain ⟨⟨gt, hlt⟩, hs⟩ := pSum_ok g q
    have htn := gt.2.2.2.2.2.1
    have hc6 := gt.2.2.2.2.1
    have h400 := hz.1.2.1
    have hB : ∀ j, j < n → B j < 256 := fun j q => (hz.1.2.2 _ q).1
    rw [r_sign hz.1 hz.2.1 (by omega), qbn_s, qbd_e]
    -- a comparison stands here
    have b37 : ∀ x j e, cmK B n t.1 = some (j, e) → x < 256 → t.1 < n → B t.1 = x →
        (x = 61 → j = 6 ∧ e = t.1 + 1) → (x ≠ 61 → two B n t.1 = (decide (t.1 + 1 < n) && decide (B (t.1 + 1) = 61))) → (x ≠ 61 → two B n t.1 = true → e = t.1 + 2 ∧ j = (if x = 60 then 5 else 7)) → (x ≠ 61 → two B n t.1 = false → e = t.1 + 1 ∧ j = (if x = 60 then 4 else 8)) → (x = 60 ∨ x = 61 ∨ x = 62) → qW (f_X12_compared_b37 (nn x) g1) (RPo k B n O (pCmp B n p E c)) := by
      intro x j e hck hx hlt2 hbx h61 htw h2 h1 hx3
      obtain ⟨kk, ke, ken⟩ := cmK_ok hck
      dsimp only at kk ke ken
      unfold f_X12_compared_b37
      rw [hz.2.1, qW_bv]
      refine qW_mono (r_count (q := t.1) hz htn htn hc6) ?_
      intro g2 hg2
      rw [qbd_e]
      by_cases c6 : t.2.2 = 60
      · rw [if_pos c6] at hg2
        obtain ⟨r2, e2⟩ := hg2
        rw [pCmp_2 q hck c6, e2, nn_add1]
        show qW _ (LF B n (ER t.1 3))
        have r3 := LF_p (g := qw_I g2 119 21 (nn (t.1 + 1))) r2 (qfr_Ik rfl (by simp) qfr_rf) wI_at (by omega)
        have b75 : ∀ z : Int32, (z = 0 ∨ (z = 1 ∧ t.1 + 1 < n)) → qW (f_X12_compared_b75 (nn x) z (qw_I g2 119 21 (nn (t.1 + 1)))) (LF B n (ER t.1 3)) := by
          intro z hz2
          unfold f_X12_compared_b75
          rw [qbd_e, wI_at]
          rcases hz2 with rfl | ⟨rfl, hlt2⟩
          · rw [if_pos rfl]
            exact r_cmp90F r3 (e := t.1 + 1) (nn_add (t.1 + 1) 0) (by omega)
          · rw [if_neg (by decide)]
            exact r_cmp90F r3 (e := t.1 + 2) (nn_add1 (t.1 + 1)) (by omega)
        refine qW_ite.mpr ⟨fun _ => b75 0 (.inl rfl), fun _ => ?_⟩
        rw [r_sign r3.1.1 wI_at (by omega), qbn_s]
        refine qW_ite.mpr ⟨fun e6 => b75 1 (.inr ⟨rfl, ?_⟩), fun _ => b75 0 (.inl rfl)⟩
        exact ((sgn_eq (c := 61) (fun q => (r3.1.1.2.2 _ q).1) (by omega)).mp e6).1
      · rw [if_neg c6] at hg2
        rw [pCmp_3 q hck c6, hg2.2.1, nn_add1]
        show qW _ (RPo k B n O (pBd (pSum B n e t.2.1 (t.2.2 + 1)) (fun u => .inr (u.1, u.2.1 ++ [(j, 0)], u.2.2))))
        have r3 := LR2_p (g := qw_I g2 119 21 (nn (t.1 + 1))) hg2 (qfr_Ik rfl (by simp) qfr_rf) wI_at
        have g3 : GI n e t.2.1 (t.2.2 + 1) (false :: U) m := by
          obtain ⟨x1, x2, x3, x4, x5, x6, x7⟩ := gt
          exact ⟨x1, x2, by omega, by omega, by omega, ken, x7⟩
        unfold f_X12_compared_b74 f_X12_compared_b75
        by_cases cx : x = 61
        · obtain ⟨hj, he⟩ := h61 cx
          rw [if_pos (by rw [cx]; rfl), qbd_e, if_pos rfl, wI_at]
          refine r_cmp90 (j := j) hk g3 r3 (by rw [he]; exact nn_add (t.1 + 1) 0) ?_
          intro h
          rw [if_pos (by rw [cx]; rfl), hj]
          rfl
        · have htw := htw cx
          rw [if_neg (fun q => by rw [show (61 : Int32) = nn 61 from rfl, nn_eq (by omega) (by omega)] at q; exact cx q), r_sign r3.1 wI_at (by omega), qbn_s]
          have ne61 : ¬ nn x = (61 : Int32) := fun q => by rw [show (61 : Int32) = nn 61 from rfl, nn_eq (by omega) (by omega)] at q; exact cx q
          cases tw : two B n t.1 with
          | true =>
            obtain ⟨he, hj⟩ := h2 cx tw
            rw [tw] at htw
            have htw := htw.symm
            rw [Bool.and_eq_true, decide_eq_true_eq, decide_eq_true_eq] at htw
            rw [if_pos (by exact (sgn_eq (c := 61) (fun q => hB _ q) (by omega)).mpr htw), qbd_e, if_neg (by decide), wI_at]
            refine r_cmp90 (j := j) hk g3 r3 (by rw [he]; exact nn_add1 (t.1 + 1)) ?_
            intro h
            rw [if_neg ne61]
            by_cases c60 : x = 60
            · rw [if_pos (by rw [c60]; rfl), if_neg (by decide), hj, if_pos c60]
              rfl
            · rw [if_neg (fun q => by rw [show (60 : Int32) = nn 60 from rfl, nn_eq (by omega) (by omega)] at q; exact c60 q), if_neg (by decide), hj, if_neg c60]
              rfl
          | false =>
            obtain ⟨he, hj⟩ := h1 cx tw
            rw [tw] at htw
            rw [if_neg (fun q => by
              have q := (sgn_eq (c := 61) (fun q => hB _ q) (by omega)).mp q
              rw [decide_eq_true q.1, decide_eq_true q.2] at htw
              cases htw), qbd_e, if_pos rfl, wI_at]
            refine r_cmp90 (j := j) hk g3 r3 (by rw [he]; exact nn_add (t.1 + 1) 0) ?_
            intro h
            rw [if_neg ne61]
            by_cases c60 : x = 60
            · rw [if_pos (by rw [c60]; rfl), if_pos rfl, hj, if_pos c60]
              rfl
            · rw [if_neg (fun q => by rw [show (60 : Int32) = nn 60 from rfl, nn_eq (by omega) (by omega)] at q; exact c60 q), if_pos rfl, hj, if_neg c60]
              rfl
    have tw0 : B t.1 = 60 ∨ B t.1 = 62 → two B n t.1 = (decide (t.1 + 1 < n) && decide (B (t.1 + 1) = 61)) := fun x => by unfold two; rw [decide_eq_true x]; rfl
    have sgnE : ∀ c, c < 256 → (sgn B n t.1 = nn c ↔ t.1 < n ∧ B t.1 = c) := fun c hc => sgn_eq (fun q => hB _ q) hc
    by_cases c60 : t.1 < n ∧ B t.1 = 60
    · have e60 := (sgnE 60 (by omega)).mpr c60
      rw [if_pos (by exact e60), e60]
      have hck : cmK B n t.1 = some (if two B n t.1 then (5, t.1 + 2) else (4, t.1 + 1)) := by unfold cmK; rw [if_pos c60]
      cases tw : two B n t.1 with
      | true =>
        rw [tw, if_pos rfl] at hck
        exact b37 60 5 (t.1 + 2) hck (by omega) c60.1 c60.2 (fun z => by omega) (fun _ => tw0 (.inl c60.2)) (fun _ _ => ⟨rfl, rfl⟩) (fun _ z => by rw [tw] at z; cases z) (by omega)
      | false =>
        rw [tw, if_neg (by decide)] at hck
        exact b37 60 4 (t.1 + 1) hck (by omega) c60.1 c60.2 (fun z => by omega) (fun _ => tw0 (.inl c60.2)) (fun _ z => by rw [tw] at z; cases z) (fun _ _ => ⟨rfl, rfl⟩) (by omega)
    · have e60 : ¬ sgn B n t.1 = 60 := fun z => c60 ((sgnE 60 (by omega)).mp z)
      rw [if_neg e60]
      by_cases c61 : t.1 < n ∧ B t.1 = 61
      · have e61 := (sgnE 61 (by omega)).mpr c61
        rw [if_pos (by exact e61), e61]
        have hck : cmK B n t.1 = some (6, t.1 + 1) := by unfold cmK; rw [if_neg c60, if_pos c61]
        exact b37 61 6 (t.1 + 1) hck (by omega) c61.1 c61.2 (fun _ => ⟨rfl, rfl⟩) (fun z => absurd rfl z) (fun z => absurd rfl z) (fun z => absurd rfl z) (by omega)
      · have e61 : ¬ sgn B n t.1 = 61 := fun z => c61 ((sgnE 61 (by omega)).mp z)
        rw [if_neg e61]
        by_cases c62 : t.1 < n ∧ B t.1 = 62
        · have e62 := (sgnE 62 (by omega)).mpr c62
          rw [if_pos (by exact e62), e62]
          have hck : cmK B n t.1 = some (if two B n t.1 then (7, t.1 + 2) else (8, t.1 + 1)) := by unfold cmK; rw [if_neg c60, if_neg c61, if_pos c62]
          cases tw : two B n t.1 with
          | true =>
            rw [tw, if_pos rfl] at hck
            exact b37 62 7 (t.1 + 2) hck (by omega) c62.1 c62.2 (fun z => by omega) (fun _ => tw0 (.inr c62.2)) (fun _ _ => ⟨rfl, rfl⟩) (fun _ z => by rw [tw] at z; cases z) (by omega)
          | false =>
            rw [tw, if_neg (by decide)] at hck
            exact b37 62 8 (t.1 + 1) hck (by omega) c62.1 c62.2 (fun z => by omega) (fun _ => tw0 (.inr c62.2)) (fun _ z => by rw [tw] at z; cases z) (fun _ _ => ⟨rfl, rfl⟩) (by omega)
        · have e62 : ¬ sgn B n t.1 = 62 := fun z => c62 ((sgnE 62 (by omega)).mp z)
          have hck : cmK B n t.1 = none := by unfold cmK; rw [if_neg c60, if_neg c61, if_neg c62]
          obtain ⟨a1, a2⟩ := LF_new (q := t.1) (x := 0) hz htn htn (by omega)
          rw [if_neg e62, hz.2.1, show (0 : Int32) = nn 0 from rfl, a1, qbv_s, qW_some, pCmp_1 q hck]
          exact a2
