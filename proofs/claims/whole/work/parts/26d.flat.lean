/-! THE SAME LAYINGS -/
def flC (s : Sg) (b : List Nat × Int64) : List (List Nat) := if nT s = 0 then [[]] else flat b
def pm (s : Sg) (m : Nat) : List Nat → Prop
  | [] => True
  | q :: st => pm s m st ∧ (nSort s m = srt s st.length → nOK s m st q = true)
theorem pass_pm {s : Sg} {S : Nat} : ∀ {l : List Nat}, pass (chkN s S) l = true ↔ ∀ m, m < gT s → S.testBit m = true → pm s m l
  | [] => by
    constructor
    · intro _ m _ _; trivial
    · intro _; rfl
  | q :: st => by
    show (pass (chkN s S) st && chkN s S st q) = true ↔ _
    rw [Bool.and_eq_true, pass_pm]
    unfold chkN
    rw [alF_iff]
    constructor
    · rintro ⟨a, b⟩ m hm hS
      refine ⟨a m hm hS, fun e => ?_⟩
      have := b m (by omega) (by omega)
      rw [hS, decide_eq_true e] at this
      exact this
    · intro h
      refine ⟨fun m hm hS => (h m hm hS).1, fun m _ hm => ?_⟩
      rcases mb2 (S.testBit m) with e | e
      · by_cases c : nSort s m = srt s st.length
        · rw [(h m (by omega) e).2 c, Bool.or_true]
        · rw [decide_eq_false c, Bool.and_false]; rfl
      · rw [e]; rfl
theorem cR_c {s : Sg} {m q : Nat} {st : List Nat} : cR s m (q :: st) = cR s m st + (if (decide (srt s st.length = nSort s m) && tb (reg s m) q) = true then 1 else 0) := rfl
theorem pm_pos {s : Sg} {m : Nat} (h : ¬ sur s m < 0) : ∀ {l : List Nat}, pm s m l ↔ (cR s m l : Int) ≤ sur s m
  | [] => by
    constructor
    · intro _; show (0 : Int) ≤ _; omega
    · intro _; trivial
  | q :: st => by
    show (pm s m st ∧ _) ↔ _
    rw [pm_pos h (l := st), cR_c]
    unfold nOK
    rw [if_neg h]
    by_cases c : srt s st.length = nSort s m
    · rw [decide_eq_true c, Bool.true_and]
      cases tb (reg s m) q with
      | true =>
        simp [c]
        omega
      | false => simp [c]
    · rw [decide_eq_false c]
      simp [Ne.symm c]
theorem pm_neg {s : Sg} {m : Nat} (h : sur s m < 0) (hm : nSort s m < gS s) (hy : mny s (nSort s m) ≠ 0) : ∀ {l : List Nat}, l.length ≤ nT s → (pm s m l ↔ (sumN (mny s) (nSort s m + 1) ≤ l.length → 0 < cR s m l))
  | [], _ => by
    have : sumN (mny s) (nSort s m + 1) = sumN (mny s) (nSort s m) + mny s (nSort s m) := rfl
    constructor
    · intro _ q; simp at q; omega
    · intro _; trivial
  | q :: st, hl => by
    have he : sumN (mny s) (nSort s m + 1) = sumN (mny s) (nSort s m) + mny s (nSort s m) := rfl
    have hen : sumN (mny s) (nSort s m + 1) ≤ nT s := sumN_mono (show nSort s m + 1 ≤ gS s from hm)
    have hlt : st.length < nT s := hl
    show (pm s m st ∧ _) ↔ _
    rw [pm_neg h hm hy (l := st) (by omega), cR_c]
    unfold nOK
    rw [if_pos h, List.length_cons]
    by_cases c : srt s st.length = nSort s m
    · obtain ⟨i, i1, i2, i3⟩ := srt_ex hlt
      have hi := srt_of i1 i2 i3
      rw [hi] at c
      subst c
      rw [hi, decide_eq_true rfl, Bool.true_and]
      have hls : isLst s st.length = decide (st.length + 1 = sumN (mny s) (nSort s m + 1)) := by
        unfold isLst
        rw [hi]
        by_cases d : st.length + 1 = sumN (mny s) (nSort s m + 1)
        · rw [decide_eq_true d]
          by_cases d2 : st.length + 1 = nT s
          · rw [decide_eq_true d2]; rfl
          · obtain ⟨j, j1, j2, j3⟩ := srt_ex (s := s) (show st.length + 1 < nT s by omega)
            rw [srt_of j1 j2 j3, decide_eq_false (show ¬ j = nSort s m by rintro rfl; omega)]
            simp
        · rw [decide_eq_false d, decide_eq_false (show ¬ st.length + 1 = nT s by omega), srt_of hm (show sumN (mny s) (nSort s m) ≤ st.length + 1 by omega) (by omega), decide_eq_true rfl]
          rfl
      rw [hls]
      by_cases d : st.length + 1 = sumN (mny s) (nSort s m + 1)
      · rw [decide_eq_true d]
        cases tb (reg s m) q with
        | true =>
          simp
          omega
        | false =>
          simp
          omega
      · rw [decide_eq_false d]
        simp
        omega
    · rw [decide_eq_false c]
      have nb : st.length + 1 ≤ sumN (mny s) (nSort s m) ∨ sumN (mny s) (nSort s m + 1) ≤ st.length := by
        rcases Nat.lt_or_ge st.length (sumN (mny s) (nSort s m)) with a | a
        · exact .inl a
        · rcases Nat.lt_or_ge st.length (sumN (mny s) (nSort s m + 1)) with b | b
          · exact absurd (srt_of hm a b) c
          · exact .inr b
      simp [Ne.symm c]
      omega
theorem mny_le {s : Sg} {i : Nat} (h : i < gS s) : mny s i ≤ nT s := by
  have : sumN (mny s) (i + 1) = sumN (mny s) i + mny s i := rfl
  have := sumN_mono (f := mny s) (show i + 1 ≤ gS s from h)
  unfold nT
  omega
theorem cR_0 {s : Sg} {m : Nat} (hm : nSort s m < gS s) (hy : mny s (nSort s m) = 0) : ∀ {l : List Nat}, l.length ≤ nT s → cR s m l = 0
  | [], _ => rfl
  | q :: st, h => by
    have hlt : st.length < nT s := h
    rw [cR_c, cR_0 hm hy (by omega), decide_eq_false]
    · rfl
    · intro c
      obtain ⟨i, i1, i2, i3⟩ := srt_ex hlt
      rw [srt_of i1 i2 i3] at c
      subst c
      have : sumN (mny s) (nSort s m + 1) = sumN (mny s) (nSort s m) + mny s (nSort s m) := rfl
      omega
theorem hopl_iff {s : Sg} {S : Nat} : hopl s S = true ↔ ∃ m, m < gT s ∧ S.testBit m = true ∧ sur s m < 0 ∧ mny s (nSort s m) = 0 := by
  unfold hopl
  rw [exN_iff]
  constructor
  · rintro ⟨c, hc, e⟩
    rw [Bool.and_eq_true, Bool.and_eq_true, decide_eq_true_eq, decide_eq_true_eq] at e
    exact ⟨c, hc, e.1, e.2.1, e.2.2⟩
  · rintro ⟨c, hc, e1, e2, e3⟩
    exact ⟨c, hc, by rw [e1, decide_eq_true e2, decide_eq_true e3]; rfl⟩
theorem fitN_iff {s : Sg} {m : Nat} {l : List Nat} : fitN s m l = true ↔ (if sur s m < 0 then 0 < cR s m l else (cR s m l : Int) ≤ sur s m) := by
  unfold fitN sur
  by_cases c : 0 ≤ (s 11 m).toInt
  · rw [if_pos c, if_neg (by omega), decide_eq_true_eq]
  · rw [if_neg c, if_pos (by omega), decide_eq_true_eq]
theorem bat_flat {s : Sg} {L : Nat → Lw} {S : Nat} (w : WF s) : (batC s L S).flatMap (flC s) = fitL s L S := by
  unfold batC fitL
  rcases mb2 (hopl s S) with e | e
  · rw [e, if_pos rfl]
    symm
    show List.filter _ _ = []
    rw [List.filter_eq_nil_iff]
    intro l hl
    obtain ⟨m, h1, h2, h3, h4⟩ := hopl_iff.mp e
    have hlen := lays_mem hl
    have n := w.ns h1
    intro f
    unfold fitA at f
    rw [decide_eq_true_eq] at f
    have := f m h1 h2
    rw [fitN_iff, if_pos h3, cR_0 n.2.1 h4 (by rw [hlen]; simp)] at this
    omega
  · rw [e, if_neg (by decide)]
    have nh : ∀ m, m < gT s → S.testBit m = true → sur s m < 0 → mny s (nSort s m) ≠ 0 := by
      intro m h1 h2 h3 h4
      rw [hopl_iff.mpr ⟨m, h1, h2, h3, h4⟩] at e
      cases e
    by_cases c : nT s = 0
    · rw [if_pos c]
      unfold allL
      rw [c]
      show flC s _ ++ [] = List.filter _ [[]]
      unfold flC
      rw [if_pos c, List.filter_cons_of_pos]
      · rfl
      · unfold fitA
        rw [decide_eq_true_eq]
        intro m h1 h2
        rw [fitN_iff]
        split
        · rename_i h3
          have := mny_le (w.ns h1).2.1
          have := nh m h1 h2 h3
          omega
        · rename_i h3
          show (0 : Int) ≤ _
          omega
    · rw [if_neg c]
      have : (bts (okB s L S) (nT s - 1) []).flatMap (flC s) = (bts (okB s L S) (nT s - 1) []).flatMap flat := by
        congr 1
        funext b
        unfold flC
        rw [if_neg c]
      rw [this, bts_flat, show nT s - 1 + 1 = nT s by omega]
      show lays (fun st q => okA s L st q && chkN s S st q) (nT s) [] = _
      rw [lays_pass.1 rfl]
      apply List.filter_congr
      intro l hl
      have hlen := lays_mem hl
      rw [Bool.eq_iff_iff, pass_pm]
      unfold fitA
      rw [decide_eq_true_eq]
      constructor
      · intro h m h1 h2
        rw [fitN_iff]
        split
        · rename_i h3
          exact (pm_neg h3 (w.ns h1).2.1 (nh m h1 h2 h3) (by rw [hlen]; simp)).mp (h m h1 h2) (by rw [hlen]; simp; exact sumN_mono (w.ns h1).2.1)
        · rename_i h3
          exact (pm_pos h3).mp (h m h1 h2)
      · intro h m h1 h2
        have := h m h1 h2
        rw [fitN_iff] at this
        by_cases h3 : sur s m < 0
        · rw [if_pos h3] at this
          exact (pm_neg h3 (w.ns h1).2.1 (nh m h1 h2 h3) (by rw [hlen]; simp)).mpr (fun _ => this)
        · rw [if_neg h3] at this
          exact (pm_pos h3).mpr this
theorem bat_mem {s : Sg} {L : Nat → Lw} {S : Nat} {b : List Nat × Int64} (h : b ∈ batC s L S) : (nT s = 0 ∧ b = ([], 4611686018427387904)) ∨ (0 < nT s ∧ good (okB s L S) b.1 ∧ b.1.length + 1 = nT s ∧ b.2 = msk (okB s L S) b.1 ∧ b.2 ≠ 0) := by
  unfold batC at h
  split at h
  · cases h
  · split at h
    · rename_i c
      exact .inl ⟨c, by simpa using h⟩
    · rename_i c
      obtain ⟨h1, h2, h3, h4⟩ := bts_mem (st := []) trivial h
      refine .inr ⟨by omega, h1, ?_, h3, h4⟩
      rw [h2]
      simp
      omega
theorem bat_len {s : Sg} {L : Nat → Lw} {S : Nat} (w : WF s) : (batC s L S).length ≤ 46656 := by
  have hn := w.n
  unfold batC
  split
  · simp
  · split
    · simp
    · refine Nat.le_trans bts_len ?_
      have : 36 ^ (nT s - 1) ≤ 36 ^ 3 := Nat.pow_le_pow_right (by omega) (by omega)
      omega
theorem msk_hi {ok : List Nat → Nat → Bool} {st : List Nat} {k : Nat} (h : 36 ≤ k) : tb (msk ok st) k = false := by
  unfold msk
  rw [tb_mkm (by omega), decide_eq_false (by omega)]
  rfl
theorem bits_len {x : Int64} (h : ∀ k, 36 ≤ k → tb x k = false) : (bits x).length = bc x := by
  unfold bits
  rw [bc_cnt h, ← cnt_range, List.countP_eq_length_filter]
theorem flC_len {s : Sg} {L : Nat → Lw} {S : Nat} {b : List Nat × Int64} (h : b ∈ batC s L S) : (flC s b).length = bc b.2 := by
  unfold flC
  rcases bat_mem h with ⟨c, rfl⟩ | ⟨c, -, -, e, -⟩
  · rw [if_pos c]
    decide +kernel
  · rw [if_neg (by omega)]
    unfold flat
    rw [List.length_map, bits_len (fun k hk => by rw [e]; exact msk_hi hk)]
/-- how many layings fit: the class -/
theorem k_total {s : Sg} {L : Nat → Lw} {S : Nat} {h : qa_M} (w : WF s) (wl : ∀ k, k + 1 = gL s → WL (L k)) (nt : NearT h) (sp : SP s L h) (r : RelS 3 s h) (hS : S < 2 ^ gT s) :
    qW (m_X7_total (nn S) h) (fun z => z.1 = nn (fitL s L S).length) := by
  unfold m_X7_total
  rw [qbd_e, qW_bv]
  refine qW_mono (k_startB w wl nt sp r hS) ?_
  intro g bs
  rw [qbd_e]
  unfold f_X7_total_b9_loop
  have bl := bat_len (L := L) (S := S) w
  refine qW_lst (fun rem t => ∃ g a k, t = (nn a, nn k, g) ∧ BS s L S rem g ∧ (∀ b, b ∈ rem → b ∈ batC s L S) ∧ k + rem.length ≤ 46656 ∧ a + (rem.flatMap (flC s)).length = (fitL s L S).length) ?_ ?_ _ _ ⟨g, 0, 0, rfl, bs, fun _ h => h, by omega, by rw [bat_flat w]; omega⟩
  · rintro b rem t ⟨g, a, k, rfl, bs, hm, hk, ha⟩
    simp only [List.length_cons] at hk
    show qW (f_X7_total_b9 (nn a) (nn k) g) _
    unfold f_X7_total_b9
    rw [if_neg (by rw [show (2000000 : Int32) = nn 2000000 from rfl, nn_le (by omega) (by omega)]; omega), qW_bn]
    refine qW_mono (k_step w wl bs) ?_
    rintro ⟨v, g2⟩ hz
    dsimp only at hz ⊢
    rcases hz with ⟨-, e⟩ | ⟨rfl, b2, B2, e, bs2, e15, -⟩
    · cases e
    · cases e
      rw [if_neg (by decide), e15, bc_spec, qbn_s, qbd_e, nn_add, qbd_e, nn_add1, qW_some]
      refine ⟨g2, _, _, rfl, bs2, fun b hb => hm b (List.mem_cons_of_mem _ hb), by omega, ?_⟩
      rw [List.flatMap_cons, List.length_append, flC_len (hm b List.mem_cons_self)] at ha
      omega
  · rintro t ⟨g, a, k, rfl, bs, hm, hk, ha⟩
    show qW (f_X7_total_b9 (nn a) (nn k) g) _
    unfold f_X7_total_b9
    have ha : a = (fitL s L S).length := by simpa using ha
    rw [if_neg (by rw [show (2000000 : Int32) = nn 2000000 from rfl, nn_le (by omega) (by simp at hk; omega)]; simp at hk; omega), qW_bn]
    refine qW_mono (k_step w wl bs) ?_
    rintro ⟨v, g2⟩ hz
    dsimp only at hz ⊢
    rcases hz with ⟨rfl, -⟩ | ⟨-, b2, B2, e, -⟩
    · rw [if_pos rfl, qup_s, qW_some, ha]
      rfl
    · cases e
theorem k_any {s : Sg} {L : Nat → Lw} {S : Nat} {h : qa_M} (w : WF s) (wl : ∀ k, k + 1 = gL s → WL (L k)) (nt : NearT h) (sp : SP s L h) (r : RelS 3 s h) (hS : S < 2 ^ gT s) :
    qW (m_X7_any (nn S) h) (fun z => z.1 = bi (decide (fitL s L S ≠ []))) := by
  unfold m_X7_any
  rw [qW_bv]
  refine qW_mono (k_startB w wl nt sp r hS) ?_
  intro g bs
  rw [qW_bn]
  refine qW_mono (k_step w wl bs) ?_
  rintro ⟨v, g2⟩ hz
  dsimp only at hz ⊢
  rcases hz with ⟨rfl, e⟩ | ⟨rfl, b2, B2, e, -⟩
  · rw [qpr_t (.inl rfl), qW_some, ← bat_flat w, e]
    rfl
  · rw [qpr_t (.inr rfl), qW_some]
    show (1 : Int32) = _
    rw [decide_eq_true]
    · rfl
    · rw [← bat_flat w, e, List.flatMap_cons]
      intro q
      have h0 := congrArg List.length q
      rw [List.length_append, flC_len (by rw [e]; exact List.mem_cons_self)] at h0
      have hb : b2 ∈ batC s L S := by rw [e]; exact List.mem_cons_self
      have : (flC s b2).length = 0 := by rw [flC_len hb]; simp at h0; exact h0.1
      rcases bat_mem hb with ⟨c, -⟩ | ⟨c, -, -, e2, e3⟩
      · unfold flC at this
        rw [if_pos c] at this
        simp at this
      · unfold flC flat at this
        rw [if_neg (by omega), List.length_map] at this
        have hnil : bits b2.2 = [] := List.eq_nil_of_length_eq_zero this
        obtain ⟨k, hk, ek⟩ := tb_ne0 e3
        have h36 : k < 36 := by
          rcases Nat.lt_or_ge k 36 with a | a
          · exact a
          · rw [e2, msk_hi a] at ek; cases ek
        have : k ∈ bits b2.2 := by
          unfold bits
          rw [List.mem_filter]
          exact ⟨by simpa using h36, ek⟩
        rw [hnil] at this
        cases this
