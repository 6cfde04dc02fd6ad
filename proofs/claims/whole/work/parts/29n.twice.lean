/-! THE CLASS LOOKS TWICE -/
theorem k_fill167 {h : qa_M} {v : Int32} (e : h.2.2.2 = 1) {n : Nat} (hn : n = 9216) : qW (m_J7_fill_53178 167 v h) (fun g => ∀ j, j < n → g.1 167 j = v) := by
  have q : ∀ g : qa_M, g.2.2.2 = 1 → (qO g)[167]? = some (.inr (0, n)) := fun g e => by rw [hn]; exact wl_167 e
  unfold m_J7_fill_53178
  rw [qbd_e, qal_s (q h e), qbd_e, nn_ofN]
  unfold f_J7_fill_53178_b5_loop
  refine qW_for n (fun k t => ∃ g : qa_M, t = (v, nn k, nn n, g) ∧ g.2.2.2 = 1 ∧ ∀ j, j < k → g.1 167 j = v) ?_ ?_ (Nat.zero_le n) ⟨h, rfl, e, fun j hj => by omega⟩
  · rintro k t hk ⟨g, rfl, eg, hg⟩
    show qW (f_J7_fill_53178_b5 167 v (nn k) (nn n) g) _
    unfold f_J7_fill_53178_b5
    rw [if_neg (fun q => by rw [nn_le (by omega) (by omega)] at q; omega), qal_s (q g eg), qck_nn hk (by omega), nn_cl (by omega), qbd_e, qbd_e, nn_add1, qW_some]
    refine ⟨_, rfl, eg, fun j hj => ?_⟩
    by_cases c : j = k
    · subst c; exact wI_at
    · rw [wI_ne (fun q => c q.2)]; exact hg j (by omega)
  · rintro t ⟨g, rfl, eg, hg⟩
    show qW (f_J7_fill_53178_b5 167 v (nn n) (nn n) g) _
    unfold f_J7_fill_53178_b5
    rw [if_pos ((nn_le (by omega) (by omega)).mpr (by omega)), qup_s, qW_some]
    exact hg
def PK (s : Sg) (L : Nat → Lw) (S : Nat) (h : qa_M) : Prop := LR h ∧ h.1 40 7 = nn (gH s) ∧ ∀ i j a c, i ≤ j → j < gH s → a < 16 → c < 16 → h.1 167 (spI i j a c) = nn (twV s (vw s 0 i) (vw s 0 j) (fitL s L S) a c)
def wLT : List (Nat × Nat) := [(22, 8), (22, 9), (22, 13), (22, 16), (27, 0), (28, 0), (29, 0), (30, 0), (31, 0), (32, 0), (45, 0), (46, 0), (47, 0), (167, 0)]
theorem k_lt54 {s : Sg} {L : Nat → Lw} {S : Nat} {h : qa_M} (w : WF s) (wl : ∀ k, k + 1 = gL s → WL (L k)) (nt : NearT h) (sp : SP s L h) (r : RelS 3 s h) (hS : S < 2 ^ gT s) (lr : LR h) (h7 : h.1 40 7 = nn (gH s)) :
    qW (f_X0_lookTwice_b54 (nn S) h) (fun g => PK s L S g ∧ qfr wLT h g) := by
  have hn := w.n
  have l4 := w.s.2
  have l8 := w.h.2
  unfold f_X0_lookTwice_b54
  rw [lr.1, qnn_s, qW_bv]
  refine qW_fr (k_fill167 (h := h) (v := 0) lr.2 (n := 9216) rfl) (fun g e => fr_J7_fill_53178 _ _ _ e) ?_
  intro g0 z0 f0
  have f0 : qfr [(167, 0)] h g0 := f0
  have e44 : g0.1 4 4 = nn (gS s) := by rw [(f0.1 4 4 rfl).1]; exact r.1.1.2.2.2.2.1.trans w.s.1
  rw [e44, nn_sh1 (by omega), nn_sub1 (Nat.two_pow_pos _), qbd_e, qW_bv]
  refine qW_fr (k_startB w wl (Near_fr nt f0 (fun j => rfl)) (SP_fr sp f0 rfl (fun b j h1 h2 => by unfold inW; simp; omega)) (RelS_fr r f0 (fun c j h1 h2 => by unfold inW; simp; omega)) hS) (fun g e => fr_X7_start _ _ e) ?_
  intro g1 bs f1
  have f1 : qfr w_X7_start g0 g1 := f1
  rw [qbd_e]
  unfold f_X0_lookTwice_b80_loop
  have bl := bat_len (L := L) (S := S) w
  have fa : qfr wLT h g1 := qfr_tr (qfr_sub (qsub_c (by unfold wLT; simp) qsub_nil) f0) (qfr_sub (qsub_c (by unfold wLT; simp) (qsub_c (by unfold wLT; simp) (qsub_c (by unfold wLT; simp) (qsub_c (by unfold wLT; simp) (qsub_c (by unfold wLT; simp) (qsub_c (by unfold wLT; simp) (qsub_c (by unfold wLT; simp) (qsub_c (by unfold wLT; simp) qsub_nil)))))))) f1)
  refine qW_lst (fun rem t => ∃ g k D, t = (nn (2 ^ gS s - 1), nn k, g) ∧ BS s L S rem g ∧ (∀ b, b ∈ rem → b ∈ batC s L S) ∧ k + rem.length ≤ 46656 ∧ D ++ rem.flatMap (flC s) = fitL s L S ∧ qfr wLT h g ∧ ∀ i j a c, i ≤ j → j < gH s → a < 16 → c < 16 → g.1 167 (spI i j a c) = nn (twV s (vw s 0 i) (vw s 0 j) D a c)) ?_ ?_ _ _ ⟨g1, 0, [], rfl, bs, fun _ h => h, by omega, by rw [bat_flat w]; rfl, fa, fun i j a c q1 q2 q3 q4 => by rw [(f1.1 167 _ rfl).1, z0 _ (spI_lt q1 (by omega) q3 q4)]; rfl⟩
  · rintro b rem t ⟨g, k, D, rfl, bs, hm, hk, hD, fg, hc⟩
    simp only [List.length_cons] at hk
    have hb := hm b List.mem_cons_self
    show qW (f_X0_lookTwice_b80 (nn (2 ^ gS s - 1)) (nn k) g) _
    unfold f_X0_lookTwice_b80
    rw [if_neg (by rw [show (2000000 : Int32) = nn 2000000 from rfl, nn_le (by omega) (by omega)]; omega), qW_bn]
    refine qW_fr (k_step w wl bs) (fun z e => fr_X7_step _ e) ?_
    rintro ⟨u, g2⟩ hz f2
    have f2 : qfr [(22, 13), (22, 16), (31, 0), (32, 0)] g g2 := f2
    have fg2 : qfr wLT h g2 := qfr_tr fg (qfr_sub (qsub_c (by unfold wLT; simp) (qsub_c (by unfold wLT; simp) (qsub_c (by unfold wLT; simp) (qsub_c (by unfold wLT; simp) qsub_nil)))) f2)
    dsimp only at hz ⊢
    rcases hz with ⟨-, e⟩ | ⟨rfl, b2, B2, e, bs2, e15, hs⟩
    · cases e
    · cases e
      rw [if_neg (by decide), qW_bv]
      refine qW_mono (k_countPairs w bs2.2.1 hb e15 hs ⟨by rw [(fg2.1 40 8 rfl).2.2]; exact lr.1, by rw [fg2.2]; exact lr.2⟩ (by rw [(fg2.1 40 7 rfl).1]; exact h7) (fun i hi => by rw [(fg2.1 7 i rfl).2.1]; exact (r.1.2.2.1 i hi).2.2)) ?_
      rintro g3 ⟨f3, h3⟩
      rw [qbd_e, nn_add1, qW_some]
      refine ⟨g3, k + 1, D ++ flC s b, rfl, BS_fr bs2 f3 (fun b j h1 h2 => by unfold inW; simp; omega), fun b hb => hm b (List.mem_cons_of_mem _ hb), by omega, ?_, qfr_tr fg2 (qfr_sub (qsub_c (by unfold wLT; simp) (qsub_c (by unfold wLT; simp) (qsub_c (by unfold wLT; simp) (qsub_c (by unfold wLT; simp) qsub_nil)))) f3), fun i j a c q1 q2 q3 q4 => ?_⟩
      · rw [List.append_assoc, ← hD]
        rfl
      · rw [h3 i j a c q1 q2 q3 q4, (f2.1 167 _ rfl).1, hc i j a c q1 q2 q3 q4, nn_add]
        unfold twV
        rw [List.countP_append]
  · rintro t ⟨g, k, D, rfl, bs, hm, hk, hD, fg, hc⟩
    show qW (f_X0_lookTwice_b80 (nn (2 ^ gS s - 1)) (nn k) g) _
    unfold f_X0_lookTwice_b80
    rw [if_neg (by rw [show (2000000 : Int32) = nn 2000000 from rfl, nn_le (by omega) (by simp at hk; omega)]; simp at hk; omega), qW_bn]
    refine qW_fr (k_step w wl bs) (fun z e => fr_X7_step _ e) ?_
    rintro ⟨u, g2⟩ hz f2
    have f2 : qfr [(22, 13), (22, 16), (31, 0), (32, 0)] g g2 := f2
    have fg2 : qfr wLT h g2 := qfr_tr fg (qfr_sub (qsub_c (by unfold wLT; simp) (qsub_c (by unfold wLT; simp) (qsub_c (by unfold wLT; simp) (qsub_c (by unfold wLT; simp) qsub_nil)))) f2)
    dsimp only at hz ⊢
    rcases hz with ⟨rfl, -⟩ | ⟨-, b2, B2, e, -⟩
    · rw [if_pos rfl, qup_s, qW_some]
      have hD : D = fitL s L S := by simpa using hD
      refine ⟨⟨⟨by rw [(fg2.1 40 8 rfl).2.2]; exact lr.1, by rw [fg2.2]; exact lr.2⟩, by rw [(fg2.1 40 7 rfl).1]; exact h7, fun i j a c q1 q2 q3 q4 => ?_⟩, fg2⟩
      rw [← hD, (f2.1 167 _ rfl).1]
      exact hc i j a c q1 q2 q3 q4
    · cases e
/-- what stays, late rows aside -/
def qfw (W : List (Nat × Nat)) (h g : qa_M) : Prop := ∀ b j, inW W b j = false → g.1 b j = h.1 b j ∧ g.2.1 b j = h.2.1 b j ∧ g.2.2.1 b j = h.2.2.1 b j
theorem qfw_r {W : List (Nat × Nat)} {h g : qa_M} (f : qfw W h g) : qfr W h (g.1, g.2.1, g.2.2.1, h.2.2.2) := ⟨f, rfl⟩
def RS (h : qa_M) : Prop := (h.2.2.1 40 8 = 45 ∧ h.2.2.2 = 0) ∨ LR h
def wLW : List (Nat × Nat) := (40, 8) :: (40, 9) :: (40, 13) :: (40, 14) :: wLT
theorem inW_wLW {b j : Nat} (h : inW wLW b j = false) : inW wLT b j = false ∧ inW [(40, 8), (40, 9), (40, 13), (40, 14), (167, 0)] b j = false := by
  constructor
  · cases e : inW wLT b j with
    | false => rfl
    | true =>
      rw [qsub_c (p := (22, 8)) (by unfold wLW wLT; simp) (qsub_c (by unfold wLW wLT; simp) (qsub_c (by unfold wLW wLT; simp) (qsub_c (by unfold wLW wLT; simp) (qsub_c (by unfold wLW wLT; simp) (qsub_c (by unfold wLW wLT; simp) (qsub_c (by unfold wLW wLT; simp) (qsub_c (by unfold wLW wLT; simp) (qsub_c (by unfold wLW wLT; simp) (qsub_c (by unfold wLW wLT; simp) (qsub_c (by unfold wLW wLT; simp) (qsub_c (by unfold wLW wLT; simp) (qsub_c (by unfold wLW wLT; simp) (qsub_c (by unfold wLW wLT; simp) qsub_nil))))))))))))) b j e] at h
      cases h
  · cases e : inW [(40, 8), (40, 9), (40, 13), (40, 14), (167, 0)] b j with
    | false => rfl
    | true =>
      rw [qsub_c (M := wLW) (by unfold wLW wLT; simp) (qsub_c (by unfold wLW wLT; simp) (qsub_c (by unfold wLW wLT; simp) (qsub_c (by unfold wLW wLT; simp) (qsub_c (by unfold wLW wLT; simp) qsub_nil)))) b j e] at h
      cases h
