/-! THE CLASS'S LOOK, KEPT -/
def LK (s : Sg) (L : Nat → Lw) (S m : Nat) (h : qa_M) : Prop := VR (vws s m) h ∧ ∀ i c, i < (vws s m).length → c < 16 → h.1 43 (16 * i + c) = nn (tlV s ((vws s m).getD i (0, 0)).2 (fitL s L S) c)
theorem k_look64 {s : Sg} {L : Nat → Lw} {S m : Nat} {h : qa_M} (w : WF s) (wl : ∀ k, k + 1 = gL s → WL (L k)) (nt : NearT h) (sp : SP s L h) (r : RelS 3 s h) (hS : S < 2 ^ gT s) (v : VR (vws s m) h) :
    qW (f_X0_look_b64 (nn S) h) (fun g => LK s L S m g ∧ ∀ j, g.1 40 j = h.1 40 j) := by
  have hn := w.n
  have l4 := w.s.2
  have vl := vws_len w (m := m)
  unfold f_X0_look_b64
  rw [qW_bv]
  refine qW_fr (k_fill (h := h) (a := 43) (n := 576) (v := 0) (fun g => wl_43 g) (by omega)) (fun g e => fr_J7_fill_53178 _ _ _ e) ?_
  intro g0 z0 f0
  have f0 : qfr [(43, 0)] h g0 := f0
  rw [qW_bv]
  refine qW_fr (k_startB w wl (Near_fr nt f0 (fun j => rfl)) (SP_fr sp f0 rfl (fun b j h1 h2 => by unfold inW; simp; omega)) (RelS_fr r f0 (fun c j h1 h2 => by unfold inW; simp; omega)) hS) (fun g e => fr_X7_start _ _ e) ?_
  intro g1 bs f1
  have f1 : qfr w_X7_start g0 g1 := f1
  have e44 : g1.1 4 4 = nn (gS s) := by rw [(f1.1 4 4 rfl).1, (f0.1 4 4 rfl).1]; exact r.1.1.2.2.2.2.1.trans w.s.1
  rw [e44, nn_sh1 (by omega), nn_sub1 (Nat.two_pow_pos _), qbd_e, qbd_e]
  unfold f_X0_look_b90_loop
  have bl := bat_len (L := L) (S := S) w
  have v1 : VR (vws s m) g1 := VR_fr (VR_fr v f0 rfl (fun j => rfl) (fun j => rfl)) f1 rfl (fun j => rfl) (fun j => rfl)
  refine qW_lst (fun rem t => ∃ g k D, t = (nn (2 ^ gS s - 1), nn k, g) ∧ BS s L S rem g ∧ (∀ b, b ∈ rem → b ∈ batC s L S) ∧ k + rem.length ≤ 46656 ∧ D ++ rem.flatMap (flC s) = fitL s L S ∧ VR (vws s m) g ∧ (∀ j, g.1 40 j = h.1 40 j) ∧ ∀ i c, i < (vws s m).length → c < 16 → g.1 43 (16 * i + c) = nn (tlV s ((vws s m).getD i (0, 0)).2 D c)) ?_ ?_ _ _ ⟨g1, 0, [], rfl, bs, fun _ h => h, by omega, by rw [bat_flat w]; rfl, v1, fun j => by rw [(f1.1 40 j rfl).1, (f0.1 40 j rfl).1], fun i c hi hc => by rw [(f1.1 43 _ rfl).1, z0 _ (by omega)]; rfl⟩
  · rintro b rem t ⟨g, k, D, rfl, bs, hm, hk, hD, vg, hj, hc⟩
    simp only [List.length_cons] at hk
    have hb := hm b List.mem_cons_self
    show qW (f_X0_look_b90 (nn (2 ^ gS s - 1)) (nn k) g) _
    unfold f_X0_look_b90
    rw [if_neg (by rw [show (2000000 : Int32) = nn 2000000 from rfl, nn_le (by omega) (by omega)]; omega), qW_bn]
    refine qW_fr (k_step w wl bs) (fun z e => fr_X7_step _ e) ?_
    rintro ⟨u, g2⟩ hz f2
    have f2 : qfr [(22, 13), (22, 16), (31, 0), (32, 0)] g g2 := f2
    dsimp only at hz ⊢
    rcases hz with ⟨-, e⟩ | ⟨rfl, b2, B2, e, bs2, e15, hs⟩
    · cases e
    · cases e
      rw [if_neg (by decide), qW_bv]
      have v2 : VR (vws s m) g2 := VR_fr vg f2 rfl (fun j => rfl) (fun j => rfl)
      refine qW_fr (k_countViews w bs2.2.1 hb e15 hs v2.1 vl (V := fun i => ((vws s m).getD i (0, 0)).2) (fun i hi => ⟨(v2.2 i hi).2, fun k hk => vws_hi hk⟩)) (fun z e => fr_X0_countViews _ _ e) ?_
      intro g3 h3 f3
      have f3 : qfr [(43, 0)] g2 g3 := f3
      rw [qbd_e, nn_add1, qW_some]
      refine ⟨g3, k + 1, D ++ flC s b, rfl, BS_fr bs2 f3 (fun b j h1 h2 => by unfold inW; simp; omega), fun b hb => hm b (List.mem_cons_of_mem _ hb), by omega, ?_, VR_fr v2 f3 rfl (fun j => rfl) (fun j => rfl), fun j => by rw [(f3.1 40 j rfl).1, (f2.1 40 j rfl).1, hj], fun i c hi h16 => ?_⟩
      · rw [List.append_assoc, ← hD]
        rfl
      · rw [h3 i c hi h16, (f2.1 43 _ rfl).1, hc i c hi h16, nn_add]
        unfold tlV
        rw [List.countP_append]
  · rintro t ⟨g, k, D, rfl, bs, hm, hk, hD, vg, hj, hc⟩
    show qW (f_X0_look_b90 (nn (2 ^ gS s - 1)) (nn k) g) _
    unfold f_X0_look_b90
    rw [if_neg (by rw [show (2000000 : Int32) = nn 2000000 from rfl, nn_le (by omega) (by simp at hk; omega)]; simp at hk; omega), qW_bn]
    refine qW_fr (k_step w wl bs) (fun z e => fr_X7_step _ e) ?_
    rintro ⟨u, g2⟩ hz f2
    have f2 : qfr [(22, 13), (22, 16), (31, 0), (32, 0)] g g2 := f2
    dsimp only at hz ⊢
    rcases hz with ⟨rfl, -⟩ | ⟨-, b2, B2, e, -⟩
    · rw [if_pos rfl, qup_s, qW_some]
      have hD : D = fitL s L S := by simpa using hD
      refine ⟨⟨VR_fr vg f2 rfl (fun j => rfl) (fun j => rfl), fun i c hi h16 => ?_⟩, fun j => by rw [(f2.1 40 j rfl).1, hj]⟩
      rw [← hD, (f2.1 43 _ rfl).1]
      exact hc i c hi h16
    · cases e
theorem k_look {s : Sg} {L : Nat → Lw} {S m : Nat} {h : qa_M} {x : Int32} (w : WF s) (wl : ∀ k, k + 1 = gL s → WL (L k)) (nt : NearT h) (sp : SP s L h) (r : RelS 3 s h) (hS : S < 2 ^ gT s) (hm : m < 2147483648) (hx : h.1 40 4 = x → h.1 40 5 = nn S → h.1 40 6 = nn m → LK s L S m h) :
    qW (m_X0_look (nn S) (nn m) x h) (fun g => LK s L S m g ∧ g.1 40 4 = x ∧ g.1 40 5 = nn S ∧ g.1 40 6 = nn m) := by
  have big : qW (f_X0_look_b27 (nn S) (nn m) x h) (fun g => LK s L S m g ∧ g.1 40 4 = x ∧ g.1 40 5 = nn S ∧ g.1 40 6 = nn m) := by
    unfold f_X0_look_b27
    rw [qbd_e, qbd_e, qbd_e]
    obtain ⟨G, hG⟩ : ∃ G, G = qw_I (qw_I (qw_I h 40 4 x) 40 5 (nn S)) 40 6 (nn m) := ⟨_, rfl⟩
    rw [← hG]
    have fG : qfr [(40, 5), (40, 6), (40, 7)] h G := by rw [hG]; exact qfr_Ik rfl (by simp) (qfr_Ik rfl (by simp) (qfr_Ik rfl (by simp) qfr_rf))
    have q4 : G.1 40 4 = x := by rw [hG, wI_ne (by omega), wI_ne (by omega), wI_at]
    have q5 : G.1 40 5 = nn S := by rw [hG, wI_ne (by omega), wI_at]
    have q6 : G.1 40 6 = nn m := by rw [hG, wI_at]
    have rG := RelS_fr r fG (fun c j h1 h2 => by unfold inW; simp; omega)
    have sG := SP_fr sp fG rfl (fun b j h1 h2 => by unfold inW; simp; omega)
    have nG := Near_fr nt fG (fun j => rfl)
    have fin : ∀ g, VR (vws s m) g → qfr [(40, 1), (41, 0), (42, 0)] G g → qW (f_X0_look_b64 (nn S) g) (fun g => LK s L S m g ∧ g.1 40 4 = x ∧ g.1 40 5 = nn S ∧ g.1 40 6 = nn m) := by
      intro g v f
      refine qW_mono (k_look64 w wl (Near_fr nG f (fun j => rfl)) (SP_fr sG f rfl (fun b j h1 h2 => by unfold inW; simp; omega)) (RelS_fr rG f (fun c j h1 h2 => by unfold inW; simp; omega)) hS v) ?_
      rintro g2 ⟨a, b⟩
      exact ⟨a, by rw [b, (f.1 40 4 rfl).1, q4], by rw [b, (f.1 40 5 rfl).1, q5], by rw [b, (f.1 40 6 rfl).1, q6]⟩
    by_cases c : m = 0
    · rw [if_pos (by rw [c]; rfl), qW_bv]
      refine qW_fr (k_viewHills w rG.1) (fun z e => fr_X0_viewFromHills _ e) ?_
      intro g v f
      exact fin g (by unfold vws; rw [if_pos c]; exact v) f
    · rw [if_neg (by rw [show (0 : Int32) = nn 0 from rfl, nn_eq hm (by omega)]; exact c), qW_bv]
      refine qW_fr (k_viewSquares w rG.1 hm) (fun z e => fr_X0_viewFromSquares _ _ e) ?_
      intro g v f
      exact fin g (by unfold vws; rw [if_neg c]; exact v) f
  unfold m_X0_look
  by_cases c1 : h.1 40 4 = x
  · rw [if_pos c1]
    by_cases c2 : h.1 40 5 = nn S
    · rw [if_pos c2]
      by_cases c3 : h.1 40 6 = nn m
      · rw [if_pos c3, qW_some]
        exact ⟨hx c1 c2 c3, c1, c2, c3⟩
      · rw [if_neg c3]
        exact big
    · rw [if_neg c2]
      exact big
  · rw [if_neg c1]
    exact big
