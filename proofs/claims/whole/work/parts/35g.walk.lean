/-! QUARREL -/
def aQuar (s : Sg) (L : Nat → Lw) (x y : Int32) : Int32 := if wiN x (gT s) then (if wiN y (gT s) then (if x = y then -1 else if (fitL s L (2 ^ cN x)).length = 0 then 0 else if (fitL s L (2 ^ cN y)).length = 0 then 0 else if (fitL s L (2 ^ cN x ||| 2 ^ cN y)).length = 0 then 1 else 0) else -1) else -1
theorem bi_ne {α : Type} {l : List α} : (bi (decide (l ≠ [])) = 0) ↔ l.length = 0 := by
  rw [bi_e0, decide_eq_false_iff_not, List.length_eq_zero_iff]
  exact Classical.not_not
theorem k_anyS {s : Sg} {L : Nat → Lw} {nl : Nat} {B : Nat → Nat} {n : Nat} {I : Nat → Option qa_M} {v S : Nat} {h : qa_M} (a : AL s L nl) (i : IvS s L nl B n I v h) (hS : S < 2 ^ gT s) : qW (m_X7_any (nn S) h) (fun z => z.1 = bi (decide (fitL s L S ≠ [])) ∧ IvS s L nl B n I v z.2) := by
  refine qW_fr (k_any a.wf a.w1 i.1.nt i.2.2 i.1.rs hS) (fun z e => fr_X7_any _ _ e) ?_
  rintro ⟨x, g⟩ hz f
  have f : qfr w_X7_any h g := f
  exact ⟨hz, i.fr a f (fun b j k => by unfold kpP kpV at k; unfold w_X7_any inW; simp; omega)⟩
theorem or_pw {a b n : Nat} (ha : a < n) (hb : b < n) : 2 ^ a ||| 2 ^ b < 2 ^ n := Nat.or_lt_two_pow (Nat.pow_lt_pow_right (by omega) ha) (Nat.pow_lt_pow_right (by omega) hb)
theorem k_aQuar {s : Sg} {L : Nat → Lw} {nl : Nat} {B : Nat → Nat} {n : Nat} {I : Nat → Option qa_M} {v : Nat} {h : qa_M} {x y : Int32} (a : AL s L nl) (i : IvC s L nl B n I v h) (hv : v < 2147483648) : qW (m_X11_quarrel x y h) (fun z => z.1 = aQuar s L x y ∧ IvC s L nl B n I v z.2) := by
  have e31 : h.1 3 1 = nn (gT s) := i.1.rs.2.1.trans a.wf.t.1
  have lt := a.wf.t.2
  unfold m_X11_quarrel aQuar
  rw [e31, k_wi (by omega), qbn_s]
  by_cases c : wiN x (gT s) = true
  · obtain ⟨u, hu, -, eu⟩ := wiN_t c
    rw [c, if_neg (by decide), if_pos rfl, e31, k_wi (by omega), qbn_s]
    by_cases c2 : wiN y (gT s) = true
    · obtain ⟨m, hm, -, em⟩ := wiN_t c2
      rw [c2, if_neg (by decide), if_pos rfl]
      by_cases c3 : x = y
      · rw [if_pos c3, if_pos c3, qW_some]; exact ⟨rfl, i⟩
      · rw [if_neg c3, if_neg c3, eu, em, cN_nn (by omega), cN_nn (by omega), qW_bv]
        refine qW_mono (k_ready a i hv) ?_
        intro g ig
        rw [nn_sh1 (by omega), qbd_e, nn_sh1 (by omega), qbd_e, qW_bn]
        refine qW_mono (k_anyS a ig (Nat.pow_lt_pow_right (by omega) hu)) ?_
        rintro ⟨z1, g1⟩ ⟨ez1, i1⟩
        have ez1 : z1 = _ := ez1
        subst ez1
        dsimp only
        by_cases d1 : (fitL s L (2 ^ u)).length = 0
        · rw [if_pos (bi_ne.mpr d1), if_pos d1, qW_some]; exact ⟨rfl, i1.c⟩
        · rw [if_neg (fun q => d1 (bi_ne.mp q)), if_neg d1, qW_bn]
          refine qW_mono (k_anyS a i1 (Nat.pow_lt_pow_right (by omega) hm)) ?_
          rintro ⟨z2, g2⟩ ⟨ez2, i2⟩
          have ez2 : z2 = _ := ez2
          subst ez2
          dsimp only
          by_cases d2 : (fitL s L (2 ^ m)).length = 0
          · rw [if_pos (bi_ne.mpr d2), if_pos d2, qW_some]; exact ⟨rfl, i2.c⟩
          · rw [if_neg (fun q => d2 (bi_ne.mp q)), if_neg d2, nn_or, qW_bn]
            refine qW_mono (k_anyS a i2 (or_pw hu hm)) ?_
            rintro ⟨z3, g3⟩ ⟨ez3, i3⟩
            have ez3 : z3 = _ := ez3
            subst ez3
            dsimp only
            by_cases d3 : (fitL s L (2 ^ u ||| 2 ^ m)).length = 0
            · rw [if_pos (bi_ne.mpr d3), if_pos d3, qW_some]; exact ⟨rfl, i3.c⟩
            · rw [if_neg (fun q => d3 (bi_ne.mp q)), if_neg d3, qW_some]; exact ⟨rfl, i3.c⟩
    · rw [Bool.not_eq_true] at c2
      rw [c2, if_pos bi_f, if_neg (by decide), qW_some]; exact ⟨rfl, i⟩
  · rw [Bool.not_eq_true] at c
    rw [c, if_pos bi_f, if_neg (by decide), qW_some]; exact ⟨rfl, i⟩
theorem r_aQuar {h : qa_M} {x y : Int32} (w : WF (sg h)) (wl : ∀ k, k + 1 = gL (sg h) → WL (lw h k)) : qW (m_X12_quarrel x y h) (fun r => r.1 = aQuar (sg h) (lw h) x y) := by
  have e5 : h.1 120 5 = nn (gT (sg h)) := w.t.1
  have lt := w.t.2
  have p := gT_pw w
  unfold m_X12_quarrel aQuar
  rw [qck_ok (i := 5) (by decide), show (5 : Int32).toNatClampNeg = 5 from rfl, e5, r_wi (by omega), qbn_s]
  by_cases c : wiN x (gT (sg h)) = true
  · obtain ⟨u, hu, -, eu⟩ := wiN_t c
    rw [c, if_neg (by decide), if_pos rfl, qck_ok (i := 5) (by decide), e5, r_wi (by omega), qbn_s]
    by_cases c2 : wiN y (gT (sg h)) = true
    · obtain ⟨m, hm, -, em⟩ := wiN_t c2
      rw [c2, if_neg (by decide), if_pos rfl]
      by_cases c3 : x = y
      · rw [if_pos c3, if_pos c3, qW_some]
      · have p1 : 2 ^ u < 2 ^ gT (sg h) := Nat.pow_lt_pow_right (by omega) hu
        have p2 : 2 ^ m < 2 ^ gT (sg h) := Nat.pow_lt_pow_right (by omega) hm
        have p3 := or_pw hu hm
        have h1 := fit_len (L := lw h) (S := 2 ^ u) w
        have h2 := fit_len (L := lw h) (S := 2 ^ m) w
        have h3 := fit_len (L := lw h) (S := 2 ^ u ||| 2 ^ m) w
        rw [if_neg c3, if_neg c3, eu, em, cN_nn (by omega), cN_nn (by omega), nn_sh1 (by omega), nn_sh1 (by omega), nn_or, qbd_e, qW_bv]
        refine qW_mono (r_fills w wl p3) ?_
        rintro g ⟨hf, s1⟩
        have s2 : andn (2 ^ u) (2 ^ u ||| 2 ^ m) = 0 := andn_0.mpr (fun j hj => by rw [Nat.testBit_or, hj]; rfl)
        have s3 : andn (2 ^ m) (2 ^ u ||| 2 ^ m) = 0 := andn_0.mpr (fun j hj => by rw [Nat.testBit_or, hj, Bool.or_true])
        rw [qck_nn (by omega) (by omega), nn_cl (by omega), hf _ s2, qck_nn (by omega) (by omega), nn_cl (by omega), hf _ s3, qck_nn (by omega) (by omega), nn_cl (by omega), hf _ andn_self]
        have lz : ∀ n : Nat, n ≤ 1679616 → ((nn n ≤ 0) ↔ n = 0) := fun n hn => by rw [show (0 : Int32) = nn 0 from rfl, nn_le (by omega) (by omega)]; omega
        have ez : ∀ n : Nat, n ≤ 1679616 → ((nn n = 0) ↔ n = 0) := fun n hn => by rw [show (0 : Int32) = nn 0 from rfl, nn_eq (by omega) (by omega)]
        by_cases d1 : (fitL (sg h) (lw h) (2 ^ u)).length = 0
        · rw [if_pos ((lz _ h1).mpr d1), if_pos d1, qW_some]
        · rw [if_neg (fun q => d1 ((lz _ h1).mp q)), if_neg d1]
          by_cases d2 : (fitL (sg h) (lw h) (2 ^ m)).length = 0
          · rw [if_pos ((lz _ h2).mpr d2), if_pos d2, qW_some]
          · rw [if_neg (fun q => d2 ((lz _ h2).mp q)), if_neg d2]
            by_cases d3 : (fitL (sg h) (lw h) (2 ^ u ||| 2 ^ m)).length = 0
            · rw [if_pos ((ez _ h3).mpr d3), if_pos d3, qW_some]
            · rw [if_neg (fun q => d3 ((ez _ h3).mp q)), if_neg d3, qW_some]
    · rw [Bool.not_eq_true] at c2
      rw [c2, if_pos bi_f, if_neg (by decide), qW_some]
  · rw [Bool.not_eq_true] at c
    rw [c, if_pos bi_f, if_neg (by decide), qW_some]
/-! WALK -/
def wkC (s : Sg) (x y r : Int32) : Prop := (wiN x (gH s) = true ∧ wiN y (2 ^ gH s) = true → ∃ T, eqT (cN y ||| 2 ^ cN x) (2 ^ cN x) (cN x) (dH s) T (cutS ((cN y ||| 2 ^ cN x) + 1) 0 0) ∧ r = oI (mnK (T (cN y ||| 2 ^ cN x)) (gH s))) ∧ (¬ (wiN x (gH s) = true ∧ wiN y (2 ^ gH s) = true) → r = -1)
def wkR (s : Sg) (x y r : Int32) : Prop := (wiN x (gH s) = true ∧ wiN y (2 ^ gH s) = true → ∃ T, eqT (cN y) (2 ^ cN x &&& cN y) (cN x) (dH s) T (cutS 256 0 0) ∧ r = oI (mnK (T (cN y)) 8)) ∧ (¬ (wiN x (gH s) = true ∧ wiN y (2 ^ gH s) = true) → r = -1)
theorem wk_same {s : Sg} {x y r1 r2 : Int32} (w : WF s) (h1 : wkC s x y r1) (h2 : wkR s x y r2) : r1 = r2 := by
  have l8 := w.h.2
  by_cases c : wiN x (gH s) = true ∧ wiN y (2 ^ gH s) = true
  · obtain ⟨U, eU, e1⟩ := h1.1 c
    obtain ⟨T, eT, e2⟩ := h2.1 c
    obtain ⟨i, hi, hi2, ei⟩ := wiN_t c.1
    obtain ⟨W, hW, hW2, eW⟩ := wiN_t c.2
    rw [ei, eW, cN_nn hi2, cN_nn hW2] at eU eT e1
    rw [eW, cN_nn hW2] at e2
    have hW8 : W < 256 := Nat.lt_of_lt_of_le hW (Nat.pow_le_pow_right (by omega) l8)
    rw [e1, e2, tour_same hi l8 hW8 (fun a q => ?_) eT eU (fun p a hp => ?_) (fun p a hp => ?_)]
    · apply Decidable.byContradiction
      intro ha
      rw [Nat.testBit_lt_two_pow (Nat.lt_of_lt_of_le hW (Nat.pow_le_pow_right (by omega) (by omega)))] at q
      cases q
    · unfold cutS; rw [if_pos (by omega)]
    · unfold cutS; rw [if_pos (by omega)]
  · rw [h1.2 c, h2.2 c]
theorem k_aWalk {s : Sg} {L : Nat → Lw} {nl : Nat} {B : Nat → Nat} {n : Nat} {I : Nat → Option qa_M} {v : Nat} {h : qa_M} {x y : Int32} (a : AL s L nl) (i : IvC s L nl B n I v h) : qW (m_X11_walk x y h) (fun z => wkC s x y z.1 ∧ IvC s L nl B n I v z.2) := by
  have e2 : h.1 4 2 = nn (gH s) := i.1.rs.1.1.2.2.1.trans a.wf.h.1
  have l8 := a.wf.h.2
  have p8 : 2 ^ gH s ≤ 256 := Nat.pow_le_pow_right (n := 2) (by omega) l8
  refine qW_fr (P := fun z => wkC s x y z.1) ?_ (fun z e => fr_X11_walk _ _ _ e) ?_
  · unfold m_X11_walk
    rw [e2, k_wi (by omega), qbn_s]
    by_cases c : wiN x (gH s) = true
    · obtain ⟨u, hu, hu2, eu⟩ := wiN_t c
      rw [c, if_neg (by decide), e2, nn_sh1 (by omega), k_wi (by omega), qbn_s]
      by_cases c2 : wiN y (2 ^ gH s) = true
      · obtain ⟨W, hW, hW2, eW⟩ := wiN_t c2
        rw [c2, if_neg (by decide), qbn_eta, eu, eW]
        refine qW_mono (k_fewest a.wf i.1.rs.1 hu hW) ?_
        rintro z ⟨T, eT, ez⟩
        refine ⟨fun _ => ?_, fun q => absurd ⟨eu ▸ c, eW ▸ c2⟩ q⟩
        rw [cN_nn hu2, cN_nn hW2]
        exact ⟨T, eT, ez⟩
      · have c2f := c2
        rw [Bool.not_eq_true] at c2f
        rw [c2f, if_pos bi_f, qW_some]
        exact ⟨fun q => absurd q.2 c2, fun _ => rfl⟩
    · have cf := c
      rw [Bool.not_eq_true] at cf
      rw [cf, if_pos bi_f, qW_some]
      exact ⟨fun q => absurd q.1 c, fun _ => rfl⟩
  · rintro ⟨z, g⟩ hz f
    have f : qfr [(49, 0), (50, 0)] h g := f
    exact ⟨hz, i.fr a f (fun b j k => by unfold kpP kpV at k; unfold inW; simp; omega)⟩
theorem r_aWalk {h : qa_M} {x y : Int32} (w : WF (sg h)) : qW (m_X12_walk x y h) (fun z => wkR (sg h) x y z.1) := by
  have e2 : h.1 120 2 = nn (gH (sg h)) := w.h.1
  have l8 := w.h.2
  have p8 : 2 ^ gH (sg h) ≤ 256 := Nat.pow_le_pow_right (n := 2) (by omega) l8
  unfold m_X12_walk
  rw [r_isHill w, qbn_s]
  show qW (if bi (wiN x (gH (sg h))) = 0 then _ else _) _
  by_cases c : wiN x (gH (sg h)) = true
  · obtain ⟨u, hu, hu2, eu⟩ := wiN_t c
    rw [c, if_neg (by decide), qck_ok (i := 2) (by decide), show (2 : Int32).toNatClampNeg = 2 from rfl, e2, nn_sh1 (by omega), r_wi (by omega), qbn_s]
    by_cases c2 : wiN y (2 ^ gH (sg h)) = true
    · obtain ⟨W, hW, hW2, eW⟩ := wiN_t c2
      rw [c2, if_neg (by decide), qbd_e, eu, eW]
      refine r_hills w rfl ?_
      intro g fg hd
      refine qW_mono (r_tours w hd hu hW) ?_
      rintro z ⟨T, eT, ez⟩
      refine ⟨fun _ => ?_, fun q => absurd ⟨eu ▸ c, eW ▸ c2⟩ q⟩
      rw [cN_nn hu2, cN_nn hW2]
      exact ⟨T, eT, ez⟩
    · have c2f := c2
      rw [Bool.not_eq_true] at c2f
      rw [c2f, if_pos bi_f, qW_some]
      exact ⟨fun q => absurd q.2 c2, fun _ => rfl⟩
  · have cf := c
    rw [Bool.not_eq_true] at cf
    rw [cf, if_pos bi_f, qW_some]
    exact ⟨fun q => absurd q.1 c, fun _ => rfl⟩
