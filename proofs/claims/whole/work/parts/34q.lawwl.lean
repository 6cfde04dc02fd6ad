/-! A LAW IS READ: the two sides keep the same law -/
theorem gD_seg {X Y Z : Cd} {i : Nat} (hi : i < Y.length) : (X ++ Y ++ Z).getD (X.length + i) (0, 0) = Y.getD i (0, 0) := by
  rw [List.getD_eq_getElem?_getD, List.getD_eq_getElem?_getD, List.append_assoc, List.getElem?_append_right (by omega), Nat.add_sub_cancel_left, List.getElem?_append_left hi]
theorem take_s {Y : Cd} {m : Nat} (h : m < Y.length) : Y.take (m + 1) = Y.take m ++ [Y.getD m (0, 0)] := by
  rw [List.take_add_one, List.getElem?_eq_getElem h, List.getD_eq_getElem?_getD, List.getElem?_eq_getElem h]
  rfl
theorem tyr_L {L : Lw} {t : Nat} {Y : Cd} (h : ∀ i, i < Y.length → L 6 (t + i) = nn (Y.getD i (0, 0)).1) : ∀ m, m ≤ Y.length → tyr L t [] m = tyL (Y.take m) []
  | 0, _ => rfl
  | m + 1, hm => by
    rw [take_s (by omega), tyL_app, ← tyr_L h m (by omega)]
    show (tyr L t [] m).bind (tst (L 6 (t + m))) = _
    rw [h m (by omega)]
    congr 1
    funext T
    show _ = (tst (nn (Y.getD m (0, 0)).1) T).bind (tyL [])
    cases tst (nn (Y.getD m (0, 0)).1) T with
    | none => rfl
    | some u => rfl
theorem getD_mem {Y : Cd} {i : Nat} (h : i < Y.length) : Y.getD i (0, 0) ∈ Y := by
  rw [List.getD_eq_getElem?_getD, List.getElem?_eq_getElem h]
  exact List.getElem_mem h
theorem nv_L {L : Lw} {t : Nat} {Y : Cd} (h : ∀ i, i < Y.length → L 6 (t + i) = nn (Y.getD i (0, 0)).1) (hk : ∀ y, y ∈ Y → kdB y) : ∀ m, m ≤ Y.length → nv L t m = cV (Y.take m)
  | 0, _ => rfl
  | m + 1, hm => by
    have k1 := (hk _ (getD_mem (show m < Y.length by omega))).1
    rw [take_s (by omega), cV_app, ← nv_L h hk m (by omega)]
    unfold nv
    show cnt _ m + (if decide (L 6 (t + m) = 0 ∨ L 6 (t + m) = 1) = true then 1 else 0) = _
    congr 1
    rw [h m (by omega)]
    unfold cV
    rw [List.countP_singleton]
    have e : decide (nn (Y.getD m (0, 0)).1 = 0 ∨ nn (Y.getD m (0, 0)).1 = 1) = decide ((Y.getD m (0, 0)).1 = 0 ∨ (Y.getD m (0, 0)).1 = 1) := by
      rw [decide_eq_decide, show (0 : Int32) = nn 0 from rfl, show (1 : Int32) = nn 1 from rfl, nn_eq (by omega) (by omega), nn_eq (by omega) (by omega)]
    rw [e]
theorem tyL_12 {Y : Cd} {T U : List Bool} (h : tyL Y T = some U) : ∀ y, y ∈ Y → y.1 ≠ 12 := by
  induction Y generalizing T with
  | nil => intro y hy; cases hy
  | cons x X ih =>
    intro y hy
    have h : (tst (nn x.1) T).bind (tyL X) = some U := h
    cases q : tst (nn x.1) T with
    | none => rw [q] at h; cases h
    | some V =>
      rw [q] at h
      rcases List.mem_cons.mp hy with e | e
      · subst e
        intro c
        rw [c] at q
        have : tst (nn 12) T = none := by unfold tst; rw [if_neg (by decide), if_neg (by decide), if_neg (by decide), if_neg (by decide), if_neg (by decide)]
        rw [this] at q
        cases q
      · exact ih h y e
theorem cr_cC {x : Nat × Nat} (h : kdB x) (h12 : x.1 ≠ 12) : cr (cC x) (nn x.1) (nn x.2) := by
  obtain ⟨a, b⟩ := x
  obtain ⟨h1, h2, h3⟩ := h
  have h1 : a ≤ 14 := h1
  have h12 : a ≠ 12 := h12
  have k : a = 0 ∨ a = 1 ∨ a = 2 ∨ a = 3 ∨ a = 4 ∨ a = 5 ∨ a = 6 ∨ a = 7 ∨ a = 8 ∨ a = 9 ∨ a = 10 ∨ a = 11 ∨ a = 13 ∨ a = 14 := by omega
  rcases k with rfl | rfl | rfl | rfl | rfl | rfl | rfl | rfl | rfl | rfl | rfl | rfl | rfl | rfl
  · exact .inl ⟨rfl, rfl, b, by have : b ≤ 99999 := h2 rfl; omega, rfl⟩
  · exact .inr (.inl ⟨rfl, b, h3 rfl, rfl, rfl⟩)
  · exact .inr (.inr (.inr (.inl ⟨rfl, rfl⟩)))
  · exact .inr (.inr (.inr (.inr (.inl ⟨rfl, rfl⟩))))
  · exact .inr (.inr (.inr (.inr (.inr (.inr (.inr (.inl ⟨rfl, rfl⟩)))))))
  · exact .inr (.inr (.inr (.inr (.inr (.inr (.inr (.inr (.inl ⟨rfl, rfl⟩))))))))
  · exact .inr (.inr (.inr (.inr (.inr (.inr (.inr (.inr (.inr (.inl ⟨rfl, rfl⟩)))))))))
  · exact .inr (.inr (.inr (.inr (.inr (.inr (.inr (.inr (.inr (.inr (.inl ⟨rfl, rfl⟩))))))))))
  · exact .inr (.inr (.inr (.inr (.inr (.inr (.inr (.inr (.inr (.inr (.inr (.inl ⟨rfl, rfl⟩)))))))))))
  · exact .inr (.inr (.inl ⟨rfl, rfl⟩))
  · exact .inr (.inr (.inr (.inr (.inr (.inr (.inr (.inr (.inr (.inr (.inr (.inr (.inl ⟨rfl, rfl⟩))))))))))))
  · exact .inr (.inr (.inr (.inr (.inr (.inr (.inr (.inr (.inr (.inr (.inr (.inr (.inr (⟨rfl, rfl⟩)))))))))))))
  · exact .inr (.inr (.inr (.inr (.inr (.inl ⟨rfl, rfl⟩)))))
  · exact .inr (.inr (.inr (.inr (.inr (.inr (.inl ⟨rfl, rfl⟩))))))
theorem lb_const {Cs : List LCl} {i : Nat} : ∀ {d : Nat}, (∀ x, i ≤ x → x < i + d → bb Cs x = false) → lb Cs (i + d) = lb Cs i
  | 0, _ => rfl
  | d + 1, h => by
    show (if bb Cs (i + d) = true then _ else lb Cs (i + d)) = _
    rw [if_neg (by rw [h (i + d) (by omega) (by omega)]; decide), lb_const (fun x h1 h2 => h x h1 (by omega))]
/-- the reference keeps this law in its place -/
def KL (k : Nat) (Cs : List LCl) (E : Cd) (h : qa_M) : Prop := h.1 142 k = nn Cs.length ∧ RCl k Cs h ∧ ∀ i, i < E.length → h.1 140 (300 * k + i) = nn (E.getD i (0, 0)).1 ∧ h.1 141 (300 * k + i) = nn (E.getD i (0, 0)).2
theorem KL_isB {k : Nat} {Cs : List LCl} {E : Cd} {h : qa_M} {n p c : Nat} (l : LI n p E c Cs) (kl : KL k Cs E h) {i : Nat} (hi : i < Cs.length) : isB (lw h k) i = bb Cs i := by
  have e : lw h k 2 i = (if bb Cs i then (-1 : Int32) else nn (gc Cs i).2.1) := (kl.2.1 i hi).2.1
  have cg := l.2.1 i hi
  unfold isB
  rw [e]
  cases q : bb Cs i with
  | true => rfl
  | false =>
    have h3 := (cg.2.1 q).1
    rw [if_neg (by decide), decide_eq_false]
    intro z
    have z2 := congrArg Int32.toInt z
    rw [nn_toInt (by omega), show (-1 : Int32).toInt = -1 from rfl] at z2
    omega
theorem KL_lC {k : Nat} {Cs : List LCl} {E : Cd} {h : qa_M} (kl : KL k Cs E h) (h12 : Cs.length ≤ 12) : lC (lw h k) = Cs.length := by
  show cN (h.1 142 k) = _
  rw [kl.1, cN_nn (by omega)]
theorem KL_WL {k : Nat} {Cs : List LCl} {E : Cd} {h : qa_M} {n p c : Nat} (l : LI n p E c Cs) (h12 : Cs.length ≤ 12) (kl : KL k Cs E h) : WL (lw h k) := by
  obtain ⟨U, gi⟩ := l.1
  have hE := gi.len
  refine ⟨⟨Cs.length, h12, kl.1⟩, ?_⟩
  intro i hi
  rw [KL_lC kl h12] at hi
  obtain ⟨c1, c2, c3, c4, c5⟩ := kl.2.1 i hi
  obtain ⟨g1, g2, g3⟩ := l.2.1 i hi
  rw [KL_isB l kl hi]
  refine ⟨⟨_, g1, c1⟩, fun q => ?_, fun q => ?_⟩
  · have q2 : (gc Cs i).2.2.2.2.2 = false := q
    rw [q2, if_neg (by decide)] at c2
    exact ⟨⟨_, (g2 q).1, c2⟩, ⟨_, (g2 q).2, c3⟩⟩
  · obtain ⟨X, Y, Z, e, x1, x2, x3, x4, x5⟩ := g3 q
    have hlen : X.length + Y.length + Z.length = E.length := by rw [e, List.length_append, List.length_append]
    have t0 : lT (lw h k) i = X.length := by show cN (h.1 146 (12 * k + i)) = _; rw [c4, cN_nn (by omega), x1]
    have t1 : lE (lw h k) i = X.length + Y.length := by show cN (h.1 147 (12 * k + i)) = _; rw [c5, cN_nn (by omega), x2]
    have code : ∀ j, j < Y.length → lw h k 6 (X.length + j) = nn (Y.getD j (0, 0)).1 ∧ lw h k 7 (X.length + j) = nn (Y.getD j (0, 0)).2 := by
      intro j hj
      have := kl.2.2 (X.length + j) (by omega)
      rw [e, gD_seg hj] at this
      exact this
    have s6 : ∀ j, j < Y.length → lw h k 6 (X.length + j) = nn (Y.getD j (0, 0)).1 := fun j hj => (code j hj).1
    refine ⟨⟨_, by omega, c4⟩, ⟨_, by omega, c5⟩, by omega, ?_, ?_, ?_⟩
    · rw [t0, t1, Nat.add_sub_cancel_left, tyr_L s6 _ (Nat.le_refl _), List.take_length]; exact x3
    · rw [t0, t1, Nat.add_sub_cancel_left, nv_L s6 x5 _ (Nat.le_refl _), List.take_length]; exact x4
    · rw [t0, t1]
      intro e1 he1 he2 h6
      obtain ⟨j, rfl⟩ : ∃ j, e1 = X.length + j := ⟨e1 - X.length, by omega⟩
      have kb := x5 _ (getD_mem (show j < Y.length by omega))
      have k14 := kb.1
      rw [(code j (by omega)).1, show (1 : Int32) = nn 1 from rfl, nn_eq (by omega) (by omega)] at h6
      exact ⟨_, kb.2.2 h6, (code j (by omega)).2⟩
theorem KL_CL {k a : Nat} {Cs : List LCl} {E : Cd} {h g : qa_M} {n p c : Nat} (l : LI n p E c Cs) (h12 : Cs.length ≤ 12) (kl : KL k Cs E h) (cl : CLp a Cs g) (cm : CM a E g) : CL a (lw h k) g := by
  obtain ⟨U, gi⟩ := l.1
  have hE := gi.len
  have eb : ∀ m, m ≤ Cs.length → cnt (isB (lw h k)) m = cnt (bb Cs) m := fun m hm => cnt_congr (fun j hj => KL_isB l kl (by omega))
  have ea : ∀ m, m ≤ Cs.length → cnt (fun c => !isB (lw h k) c) m = cnt (ab Cs) m := fun m hm => cnt_congr (fun j hj => by show (!isB (lw h k) j) = !bb Cs j; rw [KL_isB l kl (by omega)])
  unfold CL
  rw [KL_lC kl h12, eb _ (Nat.le_refl _), ea _ (Nat.le_refl _)]
  refine ⟨cl.1, cl.2.1, fun i hi hb => ?_, fun i hi hb => ?_⟩
  · rw [KL_isB l kl hi] at hb
    obtain ⟨c1, c2, c3, c4, c5⟩ := kl.2.1 i hi
    rw [show (gc Cs i).2.2.2.2.2 = false from hb, if_neg (by decide)] at c2
    rw [ea i (by omega)]
    obtain ⟨d1, d2, d3⟩ := cl.2.2.1 i hi hb
    exact ⟨d1.trans c1.symm, d2.trans c2.symm, d3.trans c3.symm⟩
  · rw [KL_isB l kl hi] at hb
    obtain ⟨c1, c2, c3, c4, c5⟩ := kl.2.1 i hi
    rw [eb i (by omega)]
    obtain ⟨d1, d2⟩ := cl.2.2.2 i hi hb
    have li : lb Cs (i + 1) = (gc Cs i).2.2.2.2.1 := by
      show (if bb Cs i = true then _ else _) = _
      rw [if_pos hb]
    obtain ⟨X, Y, Z, e, x1, x2, x3, x4, x5⟩ := (l.2.1 i hi).2.2 hb
    have hlen : X.length + Y.length + Z.length = E.length := by rw [e, List.length_append, List.length_append]
    refine ⟨d1.trans c1.symm, d2.trans c4.symm, ?_, ?_⟩
    · have c5 : lw h k 5 i = nn (gc Cs i).2.2.2.2.1 := c5
      rw [c5, ← li]
      by_cases cn : cnt (bb Cs) i + 1 < cnt (bb Cs) Cs.length
      · rw [if_pos cn, ← cnt_t hb]
        rw [← cnt_t hb] at cn
        obtain ⟨j, j1, j2, j3, j4, j5⟩ := cnt_nxt (Cs.length - (i + 1)) (i + 1) (by omega) cn
        rw [← j4, (cl.2.2.2 j j2 j3).2, l.2.2.1 j j2 j3]
        obtain ⟨d, rfl⟩ : ∃ d, j = i + 1 + d := ⟨j - (i + 1), by omega⟩
        rw [lb_const j5]
      · rw [if_neg cn, cm.1, ← l.2.2.2]
        have hm := cnt_mono (p := bb Cs) (show i + 1 ≤ Cs.length by omega)
        rw [cnt_t hb] at hm
        have he := cnt_end (p := bb Cs) (show i + 1 ≤ Cs.length by omega) (by rw [cnt_t hb]; omega)
        obtain ⟨d, hd⟩ : ∃ d, Cs.length = i + 1 + d := ⟨Cs.length - (i + 1), by omega⟩
        rw [hd] at he ⊢
        rw [lb_const he]
    · intro e1 he1 he2
      have t0 : lT (lw h k) i = X.length := by show cN (h.1 146 (12 * k + i)) = _; rw [c4, cN_nn (by omega), x1]
      have t1 : lE (lw h k) i = X.length + Y.length := by show cN (h.1 147 (12 * k + i)) = _; rw [c5, cN_nn (by omega), x2]
      rw [t0] at he1
      rw [t1] at he2
      obtain ⟨j, rfl⟩ : ∃ j, e1 = X.length + j := ⟨e1 - X.length, by omega⟩
      have q1 := kl.2.2 (X.length + j) (by omega)
      have q2 := cm.2 (X.length + j) (by omega)
      rw [e, gD_seg (by omega)] at q1 q2
      rw [q2]
      show cr _ (h.1 140 (300 * k + (X.length + j))) (h.1 141 (300 * k + (X.length + j)))
      rw [q1.1, q1.2]
      exact cr_cC (x5 _ (getD_mem (by omega))) (tyL_12 x3 _ (getD_mem (by omega)))
