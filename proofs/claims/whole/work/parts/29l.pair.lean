/-! THE CLASS'S PAIRS -/
def LR (h : qa_M) : Prop := h.2.2.1 40 8 = 168 ∧ h.2.2.2 = 1
theorem wl_167 {h : qa_M} (e : h.2.2.2 = 1) : (qO h)[167]? = some (.inr (0, 9216)) := by
  have l : qa_lay.length = 167 := rfl
  unfold qO
  rw [e, List.getElem?_append_right (by omega), l]
  rfl
def adI (g : qa_M) (k : Nat) (v : Int32) : qa_M := qw_I g 167 k (g.1 167 k + v)
theorem adI_at {g : qa_M} {k j : Nat} {x : Nat} : (adI g k (nn x)).1 167 j = g.1 167 j + nn (if j = k then x else 0) := by
  unfold adI
  by_cases c : j = k
  · subst c
    rw [wI_at, if_pos rfl]
  · rw [wI_ne (fun q => c q.2), if_neg c]
    exact (Int32.add_zero _).symm
theorem adI_ne {g : qa_M} {k b j : Nat} {v : Int32} (h : b ≠ 167) : (adI g k v).1 b j = g.1 b j := wI_ne (fun q => h q.1)
theorem adI_2 {g : qa_M} {k : Nat} {v : Int32} : (adI g k v).2 = g.2 := rfl
theorem adI_fr {g : qa_M} {k : Nat} {v : Int32} : qfr [(167, 0)] g (adI g k v) := qfr_I0 rfl (by simp) qfr_rf
def PF (i j Ai Aj Bi Bj Mi Mj : Nat) (g : qa_M) : Prop := LR g ∧ (g.1 45 i = nn Ai ∧ g.1 45 j = nn Aj) ∧ (g.1 46 i = nn Bi ∧ g.1 46 j = nn Bj) ∧ g.1 47 i = nn Mi ∧ g.1 47 j = nn Mj
theorem PF_ad {i j Ai Aj Bi Bj Mi Mj : Nat} {g : qa_M} (p : PF i j Ai Aj Bi Bj Mi Mj g) {k : Nat} {v : Int32} : PF i j Ai Aj Bi Bj Mi Mj (adI g k v) := by
  obtain ⟨a, ⟨b1, b2⟩, ⟨c1, c2⟩, d1, d2⟩ := p
  exact ⟨a, ⟨(adI_ne (by omega)).trans b1, (adI_ne (by omega)).trans b2⟩, ⟨(adI_ne (by omega)).trans c1, (adI_ne (by omega)).trans c2⟩, (adI_ne (by omega)).trans d1, (adI_ne (by omega)).trans d2⟩
theorem k_pairStep {i j nH Ai Aj Bi Bj x1 x2 x3 x4 : Nat} {m V W : Int64} {g : qa_M} (hij : i ≤ j) (hj : j < nH) (hH : nH ≤ 8) (p : PF i j Ai Aj Bi Bj (x1 + x2) (x1 + x3) g) (hA : Ai < 16 ∧ Aj < 16 ∧ Bi < 16 ∧ Bj < 16) (h7 : g.1 40 7 = nn nH) (e15 : g.2.1 22 15 = m) (v7 : g.2.1 7 i = V) (w7 : g.2.1 7 j = W) (hn : bc m = x1 + x2 + (x3 + x4)) (h1 : bc ((m &&& V) &&& W) = x1) :
    f_X0_countPairs_b114 (nn (bc m)) (nn i) (nn j) g = some (.inl (nn (bc m), nn i, nn (j + 1), adI (adI (adI (adI g (spI i j Bi Bj) (nn x1)) (spI i j Bi Aj) (nn x2)) (spI i j Ai Bj) (nn x3)) (spI i j Ai Aj) (nn x4))) := by
  obtain ⟨a1, a2, a3, a4⟩ := hA
  have s1 := spI_lt hij (by omega) a3 a4
  have s2 := spI_lt hij (by omega) a3 a2
  have s3 := spI_lt hij (by omega) a1 a4
  have s4 := spI_lt hij (by omega) a1 a2
  unfold f_X0_countPairs_b114
  rw [h7, if_neg (fun q => by rw [nn_le (by omega) (by omega)] at q; omega), qck_nn (by omega) (by omega), qck_nn (by omega) (by omega), nn_cl (by omega), nn_cl (by omega), e15, v7, w7, bc_spec, qbn_s, h1, qbd_e, p.1.1, qnn_s, qck_nn (by omega) (by omega), qck_nn (by omega) (by omega), p.2.2.1.1, p.2.2.1.2, k_spot (by omega) (by omega), if_pos hij, qbn_s, qal_s (wl_167 p.1.2), qck_nn (by omega) (by omega), qal_s (wl_167 p.1.2), qck_nn (by omega) (by omega), nn_cl (by omega), qbd_e]
  rw [show qw_I g 167 (spI i j Bi Bj) (g.1 167 (spI i j Bi Bj) + nn x1) = adI g (spI i j Bi Bj) (nn x1) from rfl]
  have p1 := PF_ad p (k := spI i j Bi Bj) (v := nn x1)
  generalize adI g (spI i j Bi Bj) (nn x1) = g1 at p1 ⊢
  rw [p1.1.1, qnn_s, qck_nn (by omega) (by omega), qck_nn (by omega) (by omega), p1.2.2.1.1, p1.2.1.2, k_spot (by omega) (by omega), if_pos hij, qbn_s, qal_s (wl_167 p1.1.2), qck_nn (by omega) (by omega), qck_nn (by omega) (by omega), qal_s (wl_167 p1.1.2), qck_nn (by omega) (by omega), nn_cl (by omega), p1.2.2.2.1, nn_sub (by omega), show x1 + x2 - x1 = x2 by omega, qbd_e]
  rw [show qw_I g1 167 (spI i j Bi Aj) (g1.1 167 (spI i j Bi Aj) + nn x2) = adI g1 (spI i j Bi Aj) (nn x2) from rfl]
  have p2 := PF_ad p1 (k := spI i j Bi Aj) (v := nn x2)
  generalize adI g1 (spI i j Bi Aj) (nn x2) = g2 at p2 ⊢
  rw [p2.1.1, qnn_s, qck_nn (by omega) (by omega), qck_nn (by omega) (by omega), p2.2.1.1, p2.2.2.1.2, k_spot (by omega) (by omega), if_pos hij, qbn_s, qal_s (wl_167 p2.1.2), qck_nn (by omega) (by omega), qck_nn (by omega) (by omega), qal_s (wl_167 p2.1.2), qck_nn (by omega) (by omega), nn_cl (by omega), p2.2.2.2.2, nn_sub (by omega), show x1 + x3 - x1 = x3 by omega, qbd_e]
  rw [show qw_I g2 167 (spI i j Ai Bj) (g2.1 167 (spI i j Ai Bj) + nn x3) = adI g2 (spI i j Ai Bj) (nn x3) from rfl]
  have p3 := PF_ad p2 (k := spI i j Ai Bj) (v := nn x3)
  generalize adI g2 (spI i j Ai Bj) (nn x3) = g3 at p3 ⊢
  rw [p3.1.1, qnn_s, qck_nn (by omega) (by omega), qck_nn (by omega) (by omega), p3.2.1.1, p3.2.1.2, k_spot (by omega) (by omega), if_pos hij, qbn_s, qal_s (wl_167 p3.1.2), qck_nn (by omega) (by omega), qck_nn (by omega) (by omega), qck_nn (by omega) (by omega), qal_s (wl_167 p3.1.2), qck_nn (by omega) (by omega), nn_cl (by omega), p3.2.2.2.1, p3.2.2.2.2, hn, nn_sub (by omega), show x1 + x2 + (x3 + x4) - (x1 + x2) = x3 + x4 by omega, ← nn_add x3 x4, ← nn_add x1 x3, i32_four, qbd_e, qbd_e, nn_add1]
  rfl
