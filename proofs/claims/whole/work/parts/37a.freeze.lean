/-! BOTH ARE MADE: their references stand as the layout has them -/
def fzC : List (Nat × Nat × Nat) := [(0, 0, 1), (0, 1, 3), (0, 2, 11), (0, 3, 12), (0, 4, 13), (0, 6, 14), (0, 7, 20), (0, 8, 21), (0, 9, 22), (0, 10, 34), (0, 11, 40), (0, 12, 48), (1, 0, 2), (3, 0, 4), (3, 2, 10), (4, 8, 5), (4, 9, 6), (4, 10, 7), (4, 11, 8), (4, 12, 9), (14, 8, 15), (14, 9, 16), (14, 10, 17), (14, 11, 18), (14, 12, 19), (20, 0, 1), (20, 1, 14), (21, 0, 1), (22, 0, 23), (22, 1, 3), (22, 2, 24), (22, 3, 25), (22, 5, 26), (22, 6, 27), (22, 9, 28), (22, 10, 29), (22, 11, 30), (22, 13, 31), (22, 14, 32), (22, 16, 33), (34, 1, 35), (34, 2, 36), (34, 3, 37), (34, 5, 38), (34, 6, 39), (40, 1, 41), (40, 2, 42), (40, 3, 43), (40, 9, 45), (40, 10, 46), (40, 11, 47), (48, 0, 49), (48, 1, 50), (51, 0, 52), (51, 2, 58), (52, 8, 53), (52, 9, 54), (52, 10, 55), (52, 11, 56), (52, 12, 57), (59, 0, 60), (59, 2, 66), (60, 8, 61), (60, 9, 62), (60, 10, 63), (60, 11, 64), (60, 12, 65), (67, 0, 68), (67, 2, 74), (68, 8, 69), (68, 9, 70), (68, 10, 71), (68, 11, 72), (68, 12, 73), (75, 0, 76), (75, 2, 82), (76, 8, 77), (76, 9, 78), (76, 10, 79), (76, 11, 80), (76, 12, 81), (83, 1, 84), (83, 2, 85), (83, 3, 86), (83, 5, 87), (83, 6, 88), (83, 7, 89), (83, 9, 90), (83, 10, 91), (92, 1, 93), (92, 2, 94), (92, 3, 95), (92, 5, 96), (92, 6, 97), (92, 7, 98), (92, 9, 99), (92, 10, 100), (101, 1, 102), (101, 2, 103), (101, 3, 104), (101, 5, 105), (101, 6, 106), (101, 7, 107), (101, 9, 108), (101, 10, 109), (110, 1, 111), (110, 2, 112), (110, 3, 113), (110, 5, 114), (110, 6, 115), (110, 7, 116), (110, 9, 117), (110, 10, 118)]
def fzR : List (Nat × Nat × Nat) := [(119, 1, 120), (119, 2, 121), (119, 3, 122), (119, 4, 123), (119, 5, 124), (119, 6, 125), (119, 7, 126), (119, 8, 127), (119, 9, 128), (119, 10, 129), (119, 11, 130), (119, 12, 131), (119, 13, 132), (119, 14, 133), (119, 15, 134), (119, 16, 135), (119, 17, 136), (119, 18, 137), (119, 19, 138), (119, 30, 139), (119, 31, 140), (119, 32, 141), (119, 33, 142), (119, 34, 143), (119, 35, 144), (119, 36, 145), (119, 37, 146), (119, 38, 147), (119, 39, 148), (119, 40, 149), (119, 41, 150), (119, 42, 151), (119, 43, 152), (119, 44, 153), (119, 45, 154), (119, 46, 155), (119, 47, 156), (119, 52, 157), (119, 53, 158), (119, 54, 159), (119, 55, 160), (119, 56, 161), (119, 57, 162), (119, 58, 163), (119, 59, 164), (119, 60, 165), (119, 61, 166)]
def fzOK (L : List (Nat × Nat × Nat)) (g : qa_M) : Prop := ∀ t ∈ L, g.2.2.1 t.1 t.2.1 = t.2.2 + 1
theorem fz_nil {g : qa_M} : fzOK [] g := fun _ h => absurd h List.not_mem_nil
theorem fz_cons {a j n : Nat} {L : List (Nat × Nat × Nat)} {g : qa_M} (e : g.2.2.1 a j = n + 1) (r : fzOK L g) : fzOK ((a, j, n) :: L) g := List.forall_mem_cons.mpr ⟨e, r⟩
set_option maxRecDepth 20000 in
theorem k_refs {h : qa_M} : qW (m_X11_init h) (fun g => fzOK fzC g ∧ g.2.2.2 = h.2.2.2) := by
  unfold m_X11_init m_X9_init m_X8_init m_X3_init m_X4_init m_X6_init m_X7_init m_X1_init m_X0_init m_X10_init m_X5_init
  simp only [qbd_e, qbv_s]
  rw [qpr_t (by rfl), qpr_t (by rfl), qpr_t (by rfl), qpr_t (by rfl), qW_bv]
  refine qW_mono (k_near (by rfl)) ?_
  rintro g ⟨nt, f⟩
  have e2 : g.2.2.1 0 2 = 11 + 1 := (f.1 0 2 rfl).2.2.trans rfl
  have e4 : g.2.2.1 0 4 = 13 + 1 := (f.1 0 4 rfl).2.2.trans rfl
  rw [qpr_t (by exact e2), qpr_t (by exact e2), qpr_t (by exact e2), qpr_t (by exact e2), qpr_t (by exact e4), qpr_t (by exact e4), qpr_t (by exact e4), qpr_t (by exact e4), qW_some]
  refine ⟨?_, ?_⟩
  · unfold fzC
    refine fz_cons (show g.2.2.1 0 0 = 1 + 1 from (f.1 0 0 rfl).2.2.trans rfl) ?_
    refine fz_cons (show g.2.2.1 0 1 = 3 + 1 from (f.1 0 1 rfl).2.2.trans rfl) ?_
    refine fz_cons (show g.2.2.1 0 2 = 11 + 1 from (f.1 0 2 rfl).2.2.trans rfl) ?_
    refine fz_cons (show g.2.2.1 0 3 = 12 + 1 from (f.1 0 3 rfl).2.2.trans rfl) ?_
    refine fz_cons (show g.2.2.1 0 4 = 13 + 1 from (f.1 0 4 rfl).2.2.trans rfl) ?_
    refine fz_cons (show g.2.2.1 0 6 = 14 + 1 from (f.1 0 6 rfl).2.2.trans rfl) ?_
    refine fz_cons (show g.2.2.1 0 7 = 20 + 1 from (f.1 0 7 rfl).2.2.trans rfl) ?_
    refine fz_cons (show g.2.2.1 0 8 = 21 + 1 from (f.1 0 8 rfl).2.2.trans rfl) ?_
    refine fz_cons rfl ?_
    refine fz_cons rfl ?_
    refine fz_cons rfl ?_
    refine fz_cons rfl ?_
    refine fz_cons (show g.2.2.1 1 0 = 2 + 1 from (f.1 1 0 rfl).2.2.trans rfl) ?_
    refine fz_cons (show g.2.2.1 3 0 = 4 + 1 from (f.1 3 0 rfl).2.2.trans rfl) ?_
    refine fz_cons (show g.2.2.1 3 2 = 10 + 1 from (f.1 3 2 rfl).2.2.trans rfl) ?_
    refine fz_cons (show g.2.2.1 4 8 = 5 + 1 from (f.1 4 8 rfl).2.2.trans rfl) ?_
    refine fz_cons (show g.2.2.1 4 9 = 6 + 1 from (f.1 4 9 rfl).2.2.trans rfl) ?_
    refine fz_cons (show g.2.2.1 4 10 = 7 + 1 from (f.1 4 10 rfl).2.2.trans rfl) ?_
    refine fz_cons (show g.2.2.1 4 11 = 8 + 1 from (f.1 4 11 rfl).2.2.trans rfl) ?_
    refine fz_cons (show g.2.2.1 4 12 = 9 + 1 from (f.1 4 12 rfl).2.2.trans rfl) ?_
    refine fz_cons (show g.2.2.1 14 8 = 15 + 1 from (f.1 14 8 rfl).2.2.trans rfl) ?_
    refine fz_cons (show g.2.2.1 14 9 = 16 + 1 from (f.1 14 9 rfl).2.2.trans rfl) ?_
    refine fz_cons (show g.2.2.1 14 10 = 17 + 1 from (f.1 14 10 rfl).2.2.trans rfl) ?_
    refine fz_cons (show g.2.2.1 14 11 = 18 + 1 from (f.1 14 11 rfl).2.2.trans rfl) ?_
    refine fz_cons (show g.2.2.1 14 12 = 19 + 1 from (f.1 14 12 rfl).2.2.trans rfl) ?_
    refine fz_cons (show g.2.2.1 20 0 = 1 + 1 from (f.1 20 0 rfl).2.2.trans rfl) ?_
    refine fz_cons (show g.2.2.1 20 1 = 14 + 1 from (f.1 20 1 rfl).2.2.trans rfl) ?_
    refine fz_cons (show g.2.2.1 21 0 = 1 + 1 from (f.1 21 0 rfl).2.2.trans rfl) ?_
    refine fz_cons (show g.2.2.1 22 0 = 23 + 1 from (f.1 22 0 rfl).2.2.trans rfl) ?_
    refine fz_cons (show g.2.2.1 22 1 = 3 + 1 from (f.1 22 1 rfl).2.2.trans rfl) ?_
    refine fz_cons (show g.2.2.1 22 2 = 24 + 1 from (f.1 22 2 rfl).2.2.trans rfl) ?_
    refine fz_cons (show g.2.2.1 22 3 = 25 + 1 from (f.1 22 3 rfl).2.2.trans rfl) ?_
    refine fz_cons (show g.2.2.1 22 5 = 26 + 1 from (f.1 22 5 rfl).2.2.trans rfl) ?_
    refine fz_cons (show g.2.2.1 22 6 = 27 + 1 from (f.1 22 6 rfl).2.2.trans rfl) ?_
    refine fz_cons (show g.2.2.1 22 9 = 28 + 1 from (f.1 22 9 rfl).2.2.trans rfl) ?_
    refine fz_cons (show g.2.2.1 22 10 = 29 + 1 from (f.1 22 10 rfl).2.2.trans rfl) ?_
    refine fz_cons (show g.2.2.1 22 11 = 30 + 1 from (f.1 22 11 rfl).2.2.trans rfl) ?_
    refine fz_cons (show g.2.2.1 22 13 = 31 + 1 from (f.1 22 13 rfl).2.2.trans rfl) ?_
    refine fz_cons (show g.2.2.1 22 14 = 32 + 1 from (f.1 22 14 rfl).2.2.trans rfl) ?_
    refine fz_cons (show g.2.2.1 22 16 = 33 + 1 from (f.1 22 16 rfl).2.2.trans rfl) ?_
    refine fz_cons rfl ?_
    refine fz_cons rfl ?_
    refine fz_cons rfl ?_
    refine fz_cons rfl ?_
    refine fz_cons rfl ?_
    refine fz_cons rfl ?_
    refine fz_cons rfl ?_
    refine fz_cons rfl ?_
    refine fz_cons rfl ?_
    refine fz_cons rfl ?_
    refine fz_cons rfl ?_
    refine fz_cons rfl ?_
    refine fz_cons rfl ?_
    refine fz_cons rfl ?_
    refine fz_cons rfl ?_
    refine fz_cons rfl ?_
    refine fz_cons rfl ?_
    refine fz_cons rfl ?_
    refine fz_cons rfl ?_
    refine fz_cons rfl ?_
    refine fz_cons rfl ?_
    refine fz_cons rfl ?_
    refine fz_cons rfl ?_
    refine fz_cons rfl ?_
    refine fz_cons rfl ?_
    refine fz_cons rfl ?_
    refine fz_cons rfl ?_
    refine fz_cons rfl ?_
    refine fz_cons rfl ?_
    refine fz_cons rfl ?_
    refine fz_cons rfl ?_
    refine fz_cons rfl ?_
    refine fz_cons rfl ?_
    refine fz_cons rfl ?_
    refine fz_cons rfl ?_
    refine fz_cons rfl ?_
    refine fz_cons rfl ?_
    refine fz_cons rfl ?_
    refine fz_cons rfl ?_
    refine fz_cons rfl ?_
    refine fz_cons rfl ?_
    refine fz_cons rfl ?_
    refine fz_cons rfl ?_
    refine fz_cons rfl ?_
    refine fz_cons rfl ?_
    refine fz_cons rfl ?_
    refine fz_cons rfl ?_
    refine fz_cons rfl ?_
    refine fz_cons rfl ?_
    refine fz_cons rfl ?_
    refine fz_cons rfl ?_
    refine fz_cons rfl ?_
    refine fz_cons rfl ?_
    refine fz_cons rfl ?_
    refine fz_cons rfl ?_
    refine fz_cons rfl ?_
    refine fz_cons rfl ?_
    refine fz_cons rfl ?_
    refine fz_cons rfl ?_
    refine fz_cons rfl ?_
    refine fz_cons rfl ?_
    refine fz_cons rfl ?_
    refine fz_cons rfl ?_
    refine fz_cons rfl ?_
    refine fz_cons rfl ?_
    refine fz_cons rfl ?_
    refine fz_cons rfl ?_
    refine fz_cons rfl ?_
    refine fz_cons rfl ?_
    refine fz_cons rfl ?_
    refine fz_cons rfl ?_
    refine fz_cons rfl ?_
    refine fz_cons rfl ?_
    exact fz_nil
  · show g.2.2.2 = h.2.2.2
    exact f.2.trans rfl
set_option maxRecDepth 20000 in
theorem r_refs {h : qa_M} : qW (m_X12_init h) (fun g => fzOK fzR g ∧ hi9 h g) := by
  unfold m_X12_init
  simp only [qbd_e]
  rw [qW_some]
  refine ⟨?_, ?_⟩
  · unfold fzR
    refine fz_cons rfl ?_
    refine fz_cons rfl ?_
    refine fz_cons rfl ?_
    refine fz_cons rfl ?_
    refine fz_cons rfl ?_
    refine fz_cons rfl ?_
    refine fz_cons rfl ?_
    refine fz_cons rfl ?_
    refine fz_cons rfl ?_
    refine fz_cons rfl ?_
    refine fz_cons rfl ?_
    refine fz_cons rfl ?_
    refine fz_cons rfl ?_
    refine fz_cons rfl ?_
    refine fz_cons rfl ?_
    refine fz_cons rfl ?_
    refine fz_cons rfl ?_
    refine fz_cons rfl ?_
    refine fz_cons rfl ?_
    refine fz_cons rfl ?_
    refine fz_cons rfl ?_
    refine fz_cons rfl ?_
    refine fz_cons rfl ?_
    refine fz_cons rfl ?_
    refine fz_cons rfl ?_
    refine fz_cons rfl ?_
    refine fz_cons rfl ?_
    refine fz_cons rfl ?_
    refine fz_cons rfl ?_
    refine fz_cons rfl ?_
    refine fz_cons rfl ?_
    refine fz_cons rfl ?_
    refine fz_cons rfl ?_
    refine fz_cons rfl ?_
    refine fz_cons rfl ?_
    refine fz_cons rfl ?_
    refine fz_cons rfl ?_
    refine fz_cons rfl ?_
    refine fz_cons rfl ?_
    refine fz_cons rfl ?_
    refine fz_cons rfl ?_
    refine fz_cons rfl ?_
    refine fz_cons rfl ?_
    refine fz_cons rfl ?_
    refine fz_cons rfl ?_
    refine fz_cons rfl ?_
    refine fz_cons rfl ?_
    exact fz_nil
  · repeat (first | exact hi9_rf | refine hi9_z ?_ (by omega) | refine hi9_R ?_ (by omega) | refine hi9_I ?_ (by omega))
def fzk (a : Nat) (k k2 : qa_K) : Bool := match k, k2 with
  | .inr q, .inr q2 => q == q2
  | .inl o, .inl o2 => o.1 == o2.1 && (o.2.length == o2.2.length && (List.range o.2.length).all (fun j => o.2.getD j 0 == o2.2.getD j 0 || (o2.2.getD j 0 == 2 && (decide (3 ≤ o.2.getD j 0) && (fzC ++ fzR).contains (a, j, o.2.getD j 0 - 3)))))
  | _, _ => false
theorem fz_chk : (List.range 167).all (fun a => match qa_lay[a]?, qa_layD[a]? with
  | some k, some k2 => fzk a k k2
  | _, _ => false) = true := by decide +kernel
theorem fz_fv {g : qa_G} {h : qa_M} {a : Nat} {fs fs2 : List Nat} (r1 : fzOK fzC h) (r2 : fzOK fzR h) (hl : fs.length = fs2.length) (hc : (List.range fs.length).all (fun j => fs.getD j 0 == fs2.getD j 0 || (fs2.getD j 0 == 2 && (decide (3 ≤ fs.getD j 0) && (fzC ++ fzR).contains (a, j, fs.getD j 0 - 3)))) = true) : (fun j => qa_fv g.1 h a j (fs.getD j 0)) = fun j => qa_fv g.1 h a j (fs2.getD j 0) := by
  funext j
  by_cases hj : j < fs.length
  · have c := List.all_eq_true.mp hc j (List.mem_range.mpr hj)
    rw [Bool.or_eq_true] at c
    rcases c with c | c
    · rw [eq_of_beq c]
    · rw [Bool.and_eq_true, Bool.and_eq_true] at c
      obtain ⟨c1, c2, c3⟩ := c
      have c1 := eq_of_beq c1
      have c2 := of_decide_eq_true c2
      have c3 := List.contains_iff_mem.mp c3
      have e : h.2.2.1 a j = fs.getD j 0 - 3 + 1 := by
        rcases List.mem_append.mp c3 with m | m
        · exact r1 _ m
        · exact r2 _ m
      rw [c1]
      obtain ⟨n, en⟩ : ∃ n, fs.getD j 0 = n + 3 := ⟨fs.getD j 0 - 3, by omega⟩
      rw [en] at e ⊢
      show Value.ref (g.1 + n) = qa_rv g.1 (h.2.2.1 a j)
      rw [e]
      rfl
  · rw [show fs.getD j 0 = 0 by rw [List.getD_eq_getElem?_getD, List.getElem?_eq_none (by omega)]; rfl, show fs2.getD j 0 = 0 by rw [List.getD_eq_getElem?_getD, List.getElem?_eq_none (by omega)]; rfl]
/-- the time of making is over: the world is the settled one -/
theorem qa_freeze {g : qa_G} {h : qa_M} {H : Heap} (r1 : fzOK fzC h) (r2 : fzOK fzR h) (zl : h.2.2.2 = 0) (hW : qa_H g (qL 167) h H) : qa_H g (qO h) h H := by
  have el : qO h = qa_lay := by unfold qO; rw [zl]; simp
  have eL : qL 167 = qa_layD := by rfl
  rw [el]
  rw [eL] at hW
  refine ⟨hW.1, fun a kd e => ?_⟩
  have ha : a < 167 := (List.getElem?_eq_some_iff.mp e).1
  have c := List.all_eq_true.mp fz_chk a (List.mem_range.mpr ha)
  rw [e] at c
  cases e2 : qa_layD[a]? with
  | none => rw [e2] at c; cases c
  | some k2 =>
    rw [e2] at c
    have q := hW.2 a k2 e2
    cases kd with
    | inr o =>
      cases k2 with
      | inl o2 => cases c
      | inr o2 =>
        have c : (o == o2) = true := c
        rw [eq_of_beq c]
        exact q
    | inl o =>
      cases k2 with
      | inr o2 => cases c
      | inl o2 =>
        obtain ⟨ci, fs⟩ := o
        obtain ⟨ci2, fs2⟩ := o2
        have c : (ci == ci2 && (fs.length == fs2.length && (List.range fs.length).all (fun j => fs.getD j 0 == fs2.getD j 0 || (fs2.getD j 0 == 2 && (decide (3 ≤ fs.getD j 0) && (fzC ++ fzR).contains (a, j, fs.getD j 0 - 3)))))) = true := c
        rw [Bool.and_eq_true, Bool.and_eq_true] at c
        obtain ⟨c1, c2, c3⟩ := c
        have c1 := eq_of_beq c1
        have c2 := eq_of_beq c2
        subst c1
        obtain ⟨r, q1, q2, q3⟩ := q
        refine ⟨r, q1, c2.trans q2, ?_⟩
        show t_OB _ _ _ _ H (fun j => qa_fv g.1 h a j (fs.getD j 0))
        rw [fz_fv (g := g) r1 r2 c2 c3]
        exact q3
theorem qa_made {h : qa_M} (zl : h.2.2.2 = 0) : qW (m_X11_init (qw_z h 0)) (fun g => qW (m_X12_init (qw_z g 119)) (fun y => Inv 1 y ∧ fzOK fzC y ∧ fzOK fzR y ∧ y.2.2.2 = 0)) := by
  obtain ⟨g, eg, i1⟩ := Inv_made zl
  obtain ⟨y, ey, i2⟩ := i1
  obtain ⟨g2, eg2, c1, c2⟩ := k_refs (h := qw_z h 0)
  obtain ⟨y2, ey2, c3, c4⟩ := r_refs (h := qw_z g 119)
  have e1 : g2 = g := Option.some.inj (eg2.symm.trans eg)
  have e2 : y2 = y := Option.some.inj (ey2.symm.trans ey)
  subst e1
  subst e2
  refine ⟨g2, eg, y2, ey, i2, fun t ht => ?_, c3, ?_⟩
  · have l : t.1 < 119 := by
      have k : fzC.all (fun t => decide (t.1 < 119)) = true := by decide +kernel
      exact of_decide_eq_true (List.all_eq_true.mp k t ht)
    rw [(c4.1 t.1 t.2.1 (Or.inl l)).2.2, ← c1 t ht]
    exact if_neg (by omega)
  · rw [c4.2]
    exact c2.trans zl
