/-! THE REFERENCE'S FRESH LOOK -/
theorem sees_nz {s : Sg} {q m : Nat} (hq : q < 36) (h : opn s q = true) : seesM s q m ≠ 0 := by
  intro e
  have : tb (seesM s q m) q = true := by
    unfold seesM
    rw [tb_mkm (by omega), decide_eq_true hq, Bool.true_and]
    unfold opn at h
    rw [Bool.and_eq_true] at h
    have d : ds q q = 0 := by unfold ds dst; omega
    unfold seen
    rw [h.1, d]
    rfl
  rw [e, tb_zero] at this
  cases this
def frM (s : Sg) (m q : Nat) : Int64 := if opn s q then seesM s q m else 0
theorem frM_0 {s : Sg} {m q : Nat} (hq : q < 36) : frM s m q = 0 ↔ opn s q = false := by
  unfold frM
  rcases mb2 (opn s q) with e | e
  · rw [if_pos e, e]
    exact ⟨fun c => absurd c (sees_nz hq e), fun c => by cases c⟩
  · rw [if_neg (by rw [e]; decide), e]
    simp
theorem RP_fw {W : List (Nat × Nat)} {s : Sg} {L : Nat → Lw} {h g : qa_M} (rp : RP s L h) (f : qfr W h g) (w1 : inW W 119 48 = false) (w3 : ∀ b j, 152 ≤ b → b ≤ 155 → inW W b j = false) : RP s L g := by
  obtain ⟨a, b, c, d, e⟩ := rp
  refine ⟨?_, fun t ht => ?_, fun x y hx hy => ?_, fun i hi => ?_, fun m hm => ?_⟩
  · rw [(f.1 119 48 w1).1]; exact a
  · rw [(f.1 152 t (w3 _ _ (by omega) (by omega))).1]; exact b t ht
  · rw [(f.1 153 _ (w3 _ _ (by omega) (by omega))).1]; exact c x y hx hy
  · rw [(f.1 154 i (w3 _ _ (by omega) (by omega))).2.1]; exact d i hi
  · rw [(f.1 155 m (w3 _ _ (by omega) (by omega))).2.1]; exact e m hm
theorem r_singleIn {s : Sg} {L : Nat → Lw} {h : qa_M} {x1 x3 : Int32} {m : Nat} (w : WF s) (hs : sg h = s) (rp : RP s L h) {l : List Nat} (hl : l.length = nT s) (hk : stk (h.1 151) l) (h36 : lt36 l) (hV : ∀ q, q < 36 → h.2.1 156 q = frM s m q) {P : ((Int32 × Int32 × qa_M) ⊕ (Int32 × qa_M)) → Prop}
    (hP : ∀ g, qfr [(160, 0)] h g → (∀ q c, q < 36 → opn s q = true → c < 16 → g.1 160 (16 * q + c) = h.1 160 (16 * q + c) + nn (if tld s (seesM s q m) l = c then 1 else 0)) → P (.inl (x1, x3, g))) : qW (f_X12_fresh_b126_loop x1 x3 (nn 0) h) P := by
  unfold f_X12_fresh_b126_loop
  refine qW_for 36 (fun k t => ∃ g, t = (x1, x3, nn k, g) ∧ qfr [(160, 0)] h g ∧ ∀ q c, q < 36 → opn s q = true → c < 16 → g.1 160 (16 * q + c) = h.1 160 (16 * q + c) + nn (if q < k ∧ tld s (seesM s q m) l = c then 1 else 0)) ?_ ?_ (Nat.zero_le _) ⟨h, rfl, qfr_rf, fun q c _ _ _ => by rw [if_neg (by omega)]; exact (Int32.add_zero _).symm⟩
  · rintro k t hk2 ⟨g, rfl, f, hg⟩
    have sgg : sg g = s := by rw [sg_fr f (fun b j h1 h2 => by unfold inW; simp; omega), hs]
    have rpg : RP s L g := RP_fw rp f rfl (fun b j h1 h2 => by unfold inW; simp; omega)
    have hkg : stk (g.1 151) l := stk_up hk (fun j _ => (f.1 151 j rfl).1)
    have wg : WF (sg g) := by rw [sgg]; exact w
    have tl : tld s (seesM s k m) l < 16 := tld_lt w
    show qW (f_X12_fresh_b126 x1 x3 (nn k) g) _
    unfold f_X12_fresh_b126 f_X12_fresh_b171
    rw [if_neg (fun q => by rw [show (36 : Int32) = nn 36 from rfl, nn_le (by omega) (by omega)] at q; omega), qck_nn (by omega) (by omega), nn_cl (by omega), (f.1 156 k rfl).2.1, hV k hk2]
    rcases mb2 (opn s k) with e | e
    · have fe : frM s m k = seesM s k m := by unfold frM; rw [if_pos e]
      have ns : m_X12_noneSeen (seesM s k m) g = some (nn (tld s (seesM s k m) l), g) := by
        have := r_noneSeen (V := seesM s k m) wg (L := L) (by rw [sgg]; exact rpg) (by rw [sgg]; exact hl) hkg h36
        rw [sgg] at this
        exact this
      rw [if_neg (fun q => by rw [frM_0 hk2, e] at q; cases q), qck_nn (by omega) (by omega), fe, ns, qbn_s, show (16 : Int32) = nn 16 from rfl, nn_mul, nn_add, qck_nn (by omega) (by omega), qck_nn (by omega) (by omega), nn_cl (by omega), qbd_e, qbd_e, nn_add1, qW_some]
      refine ⟨_, rfl, qfr_tr f (qfr_I0 rfl (by simp) qfr_rf), fun q c h1 h2 h3 => ?_⟩
      by_cases cc : 16 * q + c = 16 * k + tld s (seesM s k m) l
      · obtain ⟨rfl, rfl⟩ : q = k ∧ c = tld s (seesM s k m) l := by omega
        rw [wI_at, hg q _ h1 h2 h3, if_neg (by omega), if_pos ⟨by omega, rfl⟩, Int32.add_assoc]
        rfl
      · rw [wI_ne (fun q => cc q.2), hg q c h1 h2 h3]
        congr 2
        have : (q < k ∧ tld s (seesM s q m) l = c) ↔ (q < k + 1 ∧ tld s (seesM s q m) l = c) := by
          constructor
          · rintro ⟨a, b⟩
            exact ⟨by omega, b⟩
          · rintro ⟨a, b⟩
            refine ⟨?_, b⟩
            by_cases d : q = k
            · subst d
              omega
            · omega
        simp only [this]
    · rw [if_pos (by rw [frM_0 hk2]; exact e), qbd_e, nn_add1, qW_some]
      refine ⟨g, rfl, f, fun q c h1 h2 h3 => ?_⟩
      rw [hg q c h1 h2 h3]
      congr 2
      have : (q < k ∧ tld s (seesM s q m) l = c) ↔ (q < k + 1 ∧ tld s (seesM s q m) l = c) := by
        have : q ≠ k := by
          intro d
          rw [d, e] at h2
          cases h2
        omega
      simp only [this]
  · rintro t ⟨g, rfl, f, hg⟩
    show qW (f_X12_fresh_b126 x1 x3 (nn 36) g) _
    unfold f_X12_fresh_b126 f_X12_fresh_b177
    rw [if_pos (by decide), qup_s, qW_some]
    refine hP g f (fun q c h1 h2 h3 => ?_)
    rw [hg q c h1 h2 h3]
    congr 2
    have : (q < 36 ∧ tld s (seesM s q m) l = c) ↔ (tld s (seesM s q m) l = c) := by omega
    simp only [this]
def SO (s : Sg) (L : Nat → Lw) (S m : Nat) (h : qa_M) : Prop := (∀ q, q < 36 → h.2.1 156 q = frM s m q) ∧ ∀ q c, q < 36 → opn s q = true → c < 16 → h.1 160 (16 * q + c) = nn (tlV s (seesM s q m) (fitL s L S) c)
theorem r_worstAlone {h : qa_M} {i : Nat} {f : Nat → Nat} (hi : i < 36) (hf : ∀ c, f c ≤ 1679616) (hc : ∀ c, c < 16 → h.1 160 (16 * i + c) = nn (f c)) : m_X12_worstAlone (nn i) h = some (nn (mxN f 16), h) := by
  unfold m_X12_worstAlone f_X12_worstAlone_b4_loop
  rw [qbd_e, qbd_e]
  refine qlp_for0 (fun k => (nn i, nn (mxN f k), nn k, h)) 16 ?_ ?_
  · intro k hk
    have h1 := mxN_le hf k
    have h2 := hf k
    show f_X12_worstAlone_b4 (nn i) (nn _) (nn k) h = _
    unfold f_X12_worstAlone_b4
    rw [if_neg (by rw [show (16 : Int32) = nn 16 from rfl, nn_le (by omega) (by omega)]; omega), show (16 : Int32) = nn 16 from rfl, nn_mul, nn_add, qck_nn (by omega) (by omega), nn_cl (by omega), hc k hk, qck_nn (by omega) (by omega)]
    rw [mx_ite (K := fun v h => f_X12_worstAlone_b40 (nn i) (nn k) v h) (by omega) (by omega)]
    unfold f_X12_worstAlone_b40
    rw [qbd_e, qbd_e, nn_add1]
    rfl
  · show f_X12_worstAlone_b4 (nn i) (nn _) (nn 16) h = _
    unfold f_X12_worstAlone_b4
    rw [if_pos (by decide), qup_s]
theorem r_alone0 {s : Sg} {L : Nat → Lw} {S m : Nat} {h : qa_M} (w : WF s) (hm : m ≠ 0) (so : SO s L S m h) {i : Nat} (hi : i < 36) (ho : opn s i = true) : m_X12_worstAlone (nn i) h = some (nn (wst s L S m i), h) := by
  have e : vw s m i = seesM s i m := by unfold vw; rw [if_neg hm]
  unfold wst
  rw [e]
  exact r_worstAlone hi (fun c => Nat.le_trans tlV_le (fit_len w)) (fun c hc => so.2 i c hi ho hc)
def oL (s : Sg) (n : Nat) : List Nat := (List.range n).filter (opn s)
theorem oL_t {s : Sg} {n : Nat} (h : opn s n = true) : oL s (n + 1) = oL s n ++ [n] := by
  unfold oL
  rw [List.range_succ, List.filter_append]
  simp [h]
theorem oL_f {s : Sg} {n : Nat} (h : opn s n = false) : oL s (n + 1) = oL s n := by
  unfold oL
  rw [List.range_succ, List.filter_append]
  simp [h]
theorem oL_lt {s : Sg} {n b : Nat} (h : b ∈ oL s n) : b < n ∧ opn s b = true := by
  unfold oL at h
  rw [List.mem_filter, List.mem_range] at h
  exact h
theorem r_freshLoop {s : Sg} {L : Nat → Lw} {S m : Nat} {h : qa_M} {x : Int32} (w : WF s) (hm0 : m ≠ 0) (so : SO s L S m h) : f_X12_fresh_b187_loop x (-2) (nn 0) h = some (nxA x (wst s L S m) (bsl (wst s L S m) (oL s 36)), h) := by
  have wl : ∀ q, wst s L S m q < 2147483648 := fun q => by have := wst_le (L := L) (S := S) (m := m) (q := q) w; omega
  unfold f_X12_fresh_b187_loop
  refine qlp_for0 (fun k => (x, oI (bsl (wst s L S m) (oL s k)), nn k, h)) 36 ?_ ?_
  · intro k hk
    show f_X12_fresh_b187 x (oI _) (nn k) h = _
    unfold f_X12_fresh_b187 f_X12_fresh_b228 f_X12_fresh_b233 f_X12_fresh_b235
    rw [if_neg (fun q => by rw [show (36 : Int32) = nn 36 from rfl, nn_le (by omega) (by omega)] at q; omega), qck_nn (by omega) (by omega), nn_cl (by omega), so.1 k hk]
    rcases mb2 (opn s k) with e | e
    · rw [if_neg (fun q => by rw [frM_0 hk, e] at q; cases q), oL_t e, bsl_snoc]
      have hm := fun b => bsl_mem (F := wst s L S m) (l := oL s k) (b := b) rfl
      revert hm
      cases bsl (wst s L S m) (oL s k) with
      | none =>
        intro _
        rw [if_pos (show oI none = -2 from rfl), qbd_e, qbd_e, nn_add1]
        rfl
      | some b =>
        intro hm
        have hb := oL_lt (hm b rfl)
        show (if nn b = -2 then _ else _) = some (Sum.inl (x, oI (if wst s L S m b ≤ wst s L S m k then some b else some k), nn (k + 1), h))
        rw [if_neg (nn_nm2 (by omega)), r_alone0 w hm0 so hk e, qbn_s]
        show qbn (m_X12_worstAlone (nn b) h) _ = _
        rw [r_alone0 w hm0 so (by omega) hb.2, qbn_s]
        by_cases c : wst s L S m b ≤ wst s L S m k
        · rw [if_pos ((nn_le (wl _) (wl _)).mpr c), if_pos c, qbd_e, qbd_e, nn_add1]
        · rw [if_neg (fun q => c ((nn_le (wl _) (wl _)).mp q)), if_neg c, qbd_e, qbd_e, nn_add1]
          rfl
    · rw [if_pos (by rw [frM_0 hk]; exact e), oL_f e, qbd_e, qbd_e, nn_add1]
  · show f_X12_fresh_b187 x (oI _) (nn 36) h = _
    unfold f_X12_fresh_b187 f_X12_fresh_b243 f_X12_fresh_b254
    rw [if_pos (by decide)]
    have hm := fun b => bsl_mem (F := wst s L S m) (l := oL s 36) (b := b) rfl
    revert hm
    cases bsl (wst s L S m) (oL s 36) with
    | none =>
      intro _
      rw [if_pos (show oI none = -2 from rfl), qup_s]
      rfl
    | some b =>
      intro hm
      have hb := oL_lt (hm b rfl)
      show qup (if nn b = -2 then _ else _) = some (Sum.inr (if x = 0 then nn b else nn (wst s L S m b), h))
      rw [if_neg (nn_nm2 (by omega))]
      by_cases c : x = 0
      · rw [if_pos c, if_pos c, qup_s]
        rfl
      · rw [if_neg c, if_neg c]
        show qup (qbn (m_X12_worstAlone (nn b) h) _) = _
        rw [r_alone0 w hm0 so hb.1 hb.2, qbn_s, qup_s]
