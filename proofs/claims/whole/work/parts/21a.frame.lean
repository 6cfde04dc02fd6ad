/-! WHICH CELLS A FUNCTION LEAVES AS THEY ARE (by program: gen/fr.py). A list of (cell, 0) a whole cell, (cell, place + 1) -/
def inW (L : List (Nat × Nat)) (b j : Nat) : Bool := L.any (fun p => p.1 == b && (p.2 == 0 || p.2 == j + 1))
def qfr (L : List (Nat × Nat)) (h g : qa_M) : Prop := (∀ b j, inW L b j = false → g.1 b j = h.1 b j ∧ g.2.1 b j = h.2.1 b j ∧ g.2.2.1 b j = h.2.2.1 b j) ∧ g.2.2.2 = h.2.2.2
def wz : List (Nat × Nat) := []
theorem qfr_rf {L : List (Nat × Nat)} {h : qa_M} : qfr L h h := ⟨fun _ _ _ => ⟨rfl, rfl, rfl⟩, rfl⟩
theorem qfr_tr {L : List (Nat × Nat)} {h g k : qa_M} (a : qfr L h g) (b : qfr L g k) : qfr L h k := ⟨fun c j e => ⟨(b.1 c j e).1.trans (a.1 c j e).1, (b.1 c j e).2.1.trans (a.1 c j e).2.1, (b.1 c j e).2.2.trans (a.1 c j e).2.2⟩, b.2.trans a.2⟩
theorem inW_0 {L : List (Nat × Nat)} {a : Nat} (m : (a, 0) ∈ L) (k : Nat) : inW L a k = true := List.any_eq_true.mpr ⟨_, m, by simp⟩
theorem inW_k {L : List (Nat × Nat)} {a k : Nat} (m : (a, k + 1) ∈ L) : inW L a k = true := List.any_eq_true.mpr ⟨_, m, by simp⟩
def qsub (L M : List (Nat × Nat)) : Prop := ∀ b j, inW L b j = true → inW M b j = true
theorem qsub_nil {M : List (Nat × Nat)} : qsub [] M := fun _ _ e => by cases e
theorem inW_cons {p : Nat × Nat} {L : List (Nat × Nat)} {b j : Nat} : inW (p :: L) b j = ((p.1 == b && (p.2 == 0 || p.2 == j + 1)) || inW L b j) := rfl
theorem qsub_c {p : Nat × Nat} {L M : List (Nat × Nat)} (m : p ∈ M) (s : qsub L M) : qsub (p :: L) M := by
  intro b j e
  rw [inW_cons, Bool.or_eq_true] at e
  rcases e with e | e
  · exact List.any_eq_true.mpr ⟨p, m, e⟩
  · exact s b j e
theorem qsub_d {a k : Nat} {L M : List (Nat × Nat)} (m : (a, 0) ∈ M) (s : qsub L M) : qsub ((a, k) :: L) M := by
  intro b j e
  rw [inW_cons, Bool.or_eq_true] at e
  rcases e with e | e
  · rw [Bool.and_eq_true] at e
    have : a = b := by simpa using e.1
    subst this
    exact inW_0 m j
  · exact s b j e
theorem qfr_sub {L M : List (Nat × Nat)} {h g : qa_M} (s : qsub L M) (a : qfr L h g) : qfr M h g := ⟨fun b j e => a.1 b j (by cases x : inW L b j with | false => rfl | true => rw [s b j x] at e; cases e), a.2⟩
theorem qfr_I {L : List (Nat × Nat)} {h g f : qa_M} {a k : Nat} {v : Int32} (q : f = qw_I g a k v) (m : inW L a k = true) (e : qfr L h g) : qfr L h f := by
  subst q
  refine ⟨fun b j w => ?_, e.2⟩
  obtain ⟨e1, e2, e3⟩ := e.1 b j w
  refine ⟨?_, e2, e3⟩
  show (if b = a ∧ j = k then v else g.1 b j) = _
  rw [if_neg (by rintro ⟨rfl, rfl⟩; rw [m] at w; cases w), e1]
theorem qfr_J {L : List (Nat × Nat)} {h g f : qa_M} {a k : Nat} {v : Int64} (q : f = qw_J g a k v) (m : inW L a k = true) (e : qfr L h g) : qfr L h f := by
  subst q
  refine ⟨fun b j w => ?_, e.2⟩
  obtain ⟨e1, e2, e3⟩ := e.1 b j w
  refine ⟨e1, ?_, e3⟩
  show (if b = a ∧ j = k then v else g.2.1 b j) = _
  rw [if_neg (by rintro ⟨rfl, rfl⟩; rw [m] at w; cases w), e2]
theorem qfr_R {L : List (Nat × Nat)} {h g f : qa_M} {a k : Nat} {v : Nat} (q : f = qw_R g a k v) (m : inW L a k = true) (e : qfr L h g) : qfr L h f := by
  subst q
  refine ⟨fun b j w => ?_, e.2⟩
  obtain ⟨e1, e2, e3⟩ := e.1 b j w
  refine ⟨e1, e2, ?_⟩
  show (if b = a ∧ j = k then v else g.2.2.1 b j) = _
  rw [if_neg (by rintro ⟨rfl, rfl⟩; rw [m] at w; cases w), e3]
theorem qfr_I0 {L : List (Nat × Nat)} {h g f : qa_M} {a k : Nat} {v : Int32} (q : f = qw_I g a k v) (m : (a, 0) ∈ L) (e : qfr L h g) : qfr L h f := qfr_I q (inW_0 m k) e
theorem qfr_Ik {L : List (Nat × Nat)} {h g f : qa_M} {a k : Nat} {v : Int32} (q : f = qw_I g a k v) (m : (a, k + 1) ∈ L) (e : qfr L h g) : qfr L h f := qfr_I q (inW_k m) e
theorem qfr_J0 {L : List (Nat × Nat)} {h g f : qa_M} {a k : Nat} {v : Int64} (q : f = qw_J g a k v) (m : (a, 0) ∈ L) (e : qfr L h g) : qfr L h f := qfr_J q (inW_0 m k) e
theorem qfr_Jk {L : List (Nat × Nat)} {h g f : qa_M} {a k : Nat} {v : Int64} (q : f = qw_J g a k v) (m : (a, k + 1) ∈ L) (e : qfr L h g) : qfr L h f := qfr_J q (inW_k m) e
theorem qfr_Rk {L : List (Nat × Nat)} {h g f : qa_M} {a k : Nat} {v : Nat} (q : f = qw_R g a k v) (m : (a, k + 1) ∈ L) (e : qfr L h g) : qfr L h f := qfr_R q (inW_k m) e
theorem qfr_cI {L : List (Nat × Nat)} {h g f : qa_M} {a sp c dp n : Nat} (q : f = qw_cI g a sp c dp n) (m : (c, 0) ∈ L) (e : qfr L h g) : qfr L h f := by
  subst q
  refine ⟨fun b j w => ?_, e.2⟩
  obtain ⟨e1, e2, e3⟩ := e.1 b j w
  refine ⟨?_, e2, e3⟩
  show (if b = c ∧ dp ≤ j ∧ j < dp + n then _ else g.1 b j) = _
  rw [if_neg (by rintro ⟨rfl, -⟩; rw [inW_0 m j] at w; cases w), e1]
theorem qfr_cJ {L : List (Nat × Nat)} {h g f : qa_M} {a sp c dp n : Nat} (q : f = qw_cJ g a sp c dp n) (m : (c, 0) ∈ L) (e : qfr L h g) : qfr L h f := by
  subst q
  refine ⟨fun b j w => ?_, e.2⟩
  obtain ⟨e1, e2, e3⟩ := e.1 b j w
  refine ⟨e1, ?_, e3⟩
  show (if b = c ∧ dp ≤ j ∧ j < dp + n then _ else g.2.1 b j) = _
  rw [if_neg (by rintro ⟨rfl, -⟩; rw [inW_0 m j] at w; cases w), e2]
theorem qbd_el {α β : Type} {x : α} {K : α → β} {z : β} (E : qbd x K = z) : ∃ y, y = x ∧ K y = z := ⟨x, rfl, E⟩
theorem qif_el {α : Type} {c : Prop} [Decidable c] {A B : α} {z : α} (E : (if c then A else B) = z) : A = z ∨ B = z := by
  by_cases q : c
  · rw [if_pos q] at E; exact .inl E
  · rw [if_neg q] at E; exact .inr E
theorem qfr_nil {h g : qa_M} (e : qfr wz h g) : g = h := by
  obtain ⟨g1, g2, g3, g4⟩ := g
  obtain ⟨h1, h2, h3, h4⟩ := h
  obtain ⟨e1, e2⟩ := e
  have a1 : g1 = h1 := by funext b j; exact (e1 b j rfl).1
  have a2 : g2 = h2 := by funext b j; exact (e1 b j rfl).2.1
  have a3 : g3 = h3 := by funext b j; exact (e1 b j rfl).2.2
  have a4 : g4 = h4 := e2
  rw [a1, a2, a3, a4]
theorem qnul_el {α : Type} {x : Nat} {A : Option α} {B : Nat → Option α} {z : α} (E : qnul x A B = some z) : A = some z ∨ ∃ a, x = a + 1 ∧ B a = some z := by
  cases x with
  | zero => exact .inl E
  | succ a => exact .inr ⟨a, rfl, E⟩
theorem qup_f {α β : Type} {x : Option β} {z : α ⊕ β} {Q : α ⊕ β → Prop} (E : qup x = some z) (k : ∀ r, x = some r → Q (.inr r)) : Q z := by
  obtain ⟨r, ez, e⟩ := qup_el E
  subst ez
  exact k r e
theorem qsome_f {α : Type} {a z : α} {Q : α → Prop} (E : some a = some z) (k : Q a) : Q z := by
  rw [← Option.some.inj E]
  exact k
def wf_X9_append_b3 : List (Nat × Nat) := [(1, 2), (2, 0)]
theorem fr_X9_append_b3 (x1 : Int32) (x2 : Int32) (h : qa_M) {z : ((Int32 × Int32 × qa_M) ⊕ qa_M)} (E : f_X9_append_b3 x1 x2 h = some z) : qfr wf_X9_append_b3 h ((Sum.elim (fun z : Int32 × Int32 × qa_M => z.2.2) (fun z : qa_M => z)) z) := by
  unfold f_X9_append_b3 at E
  have e_h : qfr wf_X9_append_b3 h h := qfr_rf
  rcases qif_el E with E | E
  · refine qup_f (Q := fun z => qfr wf_X9_append_b3 h ((Sum.elim (fun z : Int32 × Int32 × qa_M => z.2.2) (fun z : qa_M => z)) z)) E (fun rz E => ?_)
    exact qsome_f (Q := fun z => qfr wf_X9_append_b3 h ((fun z : qa_M => z) z)) E e_h
  · rcases qif_el E with E | E
    · refine qup_f (Q := fun z => qfr wf_X9_append_b3 h ((Sum.elim (fun z : Int32 × Int32 × qa_M => z.2.2) (fun z : qa_M => z)) z)) E (fun rz E => ?_)
      exact qsome_f (Q := fun z => qfr wf_X9_append_b3 h ((fun z : qa_M => z) z)) E e_h
    · obtain ⟨-, E⟩ := qck_el E
      obtain ⟨h32, q_h32, E⟩ := qbd_el E
      have e_h32 := qfr_I0 q_h32 (List.mem_of_getElem? (i := 1) rfl) e_h
      obtain ⟨h40, q_h40, E⟩ := qbd_el E
      have e_h40 := qfr_Ik q_h40 (List.mem_of_getElem? (i := 0) rfl) e_h32
      obtain ⟨v43, -, E⟩ := qbd_el E
      exact qsome_f (Q := fun z => qfr wf_X9_append_b3 h ((Sum.elim (fun z : Int32 × Int32 × qa_M => z.2.2) (fun z : qa_M => z)) z)) E e_h40
theorem fr_X9_append_b3_loop (x1 : Int32) (x2 : Int32) (h : qa_M) {z : qa_M} (E : f_X9_append_b3_loop x1 x2 h = some z) : qfr wf_X9_append_b3 h ((fun z : qa_M => z) z) :=
  qlp_ind (fun sz : Int32 × Int32 × qa_M => qfr wf_X9_append_b3 (sz.2.2) ((fun z : qa_M => z) z)) (fun sz E => fr_X9_append_b3 sz.1 sz.2.1 sz.2.2 E) (fun sz sz2 E ih => qfr_tr (fr_X9_append_b3 sz.1 sz.2.1 sz.2.2 E) ih) (x1, x2, h) E
def w_X9_append : List (Nat × Nat) := [(1, 2), (2, 0)]
theorem fr_X9_append (x1 : Int32) (h : qa_M) {z : qa_M} (E : m_X9_append x1 h = some z) : qfr w_X9_append h ((fun z : qa_M => z) z) := by
  unfold m_X9_append at E
  have e_h : qfr w_X9_append h h := qfr_rf
  obtain ⟨v2, -, E⟩ := qbd_el E
  exact qfr_tr e_h (qfr_sub (qsub_c (List.mem_of_getElem? (i := 0) rfl) (qsub_c (List.mem_of_getElem? (i := 1) rfl) qsub_nil)) (fr_X9_append_b3_loop x1 v2 h E))
def w_X11_feed : List (Nat × Nat) := [(1, 2), (2, 0)]
theorem fr_X11_feed (x1 : Int32) (x2 : Int32) (x3 : Int32) (x4 : Int32) (x5 : Int32) (h : qa_M) {z : (Int32 × qa_M)} (E : m_X11_feed x1 x2 x3 x4 x5 h = some z) : qfr w_X11_feed h ((fun z : Int32 × qa_M => z.2) z) := by
  unfold m_X11_feed at E
  have e_h : qfr w_X11_feed h h := qfr_rf
  rcases qif_el E with E | E
  · obtain ⟨h23, E0, E⟩ := qbv_el E
    have e_h23 := qfr_tr e_h (qfr_sub (qsub_c (List.mem_of_getElem? (i := 0) rfl) (qsub_c (List.mem_of_getElem? (i := 1) rfl) qsub_nil)) (fr_X9_append x1 h E0))
    obtain ⟨h31, E0, E⟩ := qbv_el E
    have e_h31 := qfr_tr e_h23 (qfr_sub (qsub_c (List.mem_of_getElem? (i := 0) rfl) (qsub_c (List.mem_of_getElem? (i := 1) rfl) qsub_nil)) (fr_X9_append x2 h23 E0))
    obtain ⟨h39, E0, E⟩ := qbv_el E
    have e_h39 := qfr_tr e_h31 (qfr_sub (qsub_c (List.mem_of_getElem? (i := 0) rfl) (qsub_c (List.mem_of_getElem? (i := 1) rfl) qsub_nil)) (fr_X9_append x3 h31 E0))
    obtain ⟨h48, E0, E⟩ := qbv_el E
    have e_h48 := qfr_tr e_h39 (qfr_sub (qsub_c (List.mem_of_getElem? (i := 0) rfl) (qsub_c (List.mem_of_getElem? (i := 1) rfl) qsub_nil)) (fr_X9_append x4 h39 E0))
    obtain ⟨h57, E0, E⟩ := qbv_el E
    have e_h57 := qfr_tr e_h48 (qfr_sub (qsub_c (List.mem_of_getElem? (i := 0) rfl) (qsub_c (List.mem_of_getElem? (i := 1) rfl) qsub_nil)) (fr_X9_append x5 h48 E0))
    exact qsome_f (Q := fun z => qfr w_X11_feed h ((fun z : Int32 × qa_M => z.2) z)) E e_h57
  · exact qsome_f (Q := fun z => qfr w_X11_feed h ((fun z : Int32 × qa_M => z.2) z)) E e_h
def w_X11_end : List (Nat × Nat) := [(1, 2)]
theorem fr_X11_end (x1 : Int32) (h : qa_M) {z : (Int32 × qa_M)} (E : m_X11_end x1 h = some z) : qfr w_X11_end h ((fun z : Int32 × qa_M => z.2) z) := by
  unfold m_X11_end at E
  have e_h : qfr w_X11_end h h := qfr_rf
  rcases qif_el E with E | E
  · exact qsome_f (Q := fun z => qfr w_X11_end h ((fun z : Int32 × qa_M => z.2) z)) E e_h
  · rcases qif_el E with E | E
    · obtain ⟨h22, q_h22, E⟩ := qbd_el E
      have e_h22 := qfr_Ik q_h22 (List.mem_of_getElem? (i := 0) rfl) e_h
      exact qsome_f (Q := fun z => qfr w_X11_end h ((fun z : Int32 × qa_M => z.2) z)) E e_h22
    · exact qsome_f (Q := fun z => qfr w_X11_end h ((fun z : Int32 × qa_M => z.2) z)) E e_h
def w_X3_clear : List (Nat × Nat) := [(14, 1), (14, 2), (14, 3), (14, 4), (14, 5), (14, 6), (14, 7), (14, 8)]
theorem fr_X3_clear (h : qa_M) {z : qa_M} (E : m_X3_clear h = some z) : qfr w_X3_clear h ((fun z : qa_M => z) z) := by
  unfold m_X3_clear at E
  have e_h : qfr w_X3_clear h h := qfr_rf
  obtain ⟨h2, q_h2, E⟩ := qbd_el E
  have e_h2 := qfr_Ik q_h2 (List.mem_of_getElem? (i := 0) rfl) e_h
  obtain ⟨h7, q_h7, E⟩ := qbd_el E
  have e_h7 := qfr_Ik q_h7 (List.mem_of_getElem? (i := 1) rfl) e_h2
  obtain ⟨h12, q_h12, E⟩ := qbd_el E
  have e_h12 := qfr_Ik q_h12 (List.mem_of_getElem? (i := 2) rfl) e_h7
  obtain ⟨h17, q_h17, E⟩ := qbd_el E
  have e_h17 := qfr_Ik q_h17 (List.mem_of_getElem? (i := 3) rfl) e_h12
  obtain ⟨h22, q_h22, E⟩ := qbd_el E
  have e_h22 := qfr_Ik q_h22 (List.mem_of_getElem? (i := 4) rfl) e_h17
  obtain ⟨h27, q_h27, E⟩ := qbd_el E
  have e_h27 := qfr_Ik q_h27 (List.mem_of_getElem? (i := 5) rfl) e_h22
  obtain ⟨h32, q_h32, E⟩ := qbd_el E
  have e_h32 := qfr_Jk q_h32 (List.mem_of_getElem? (i := 6) rfl) e_h27
  obtain ⟨h37, q_h37, E⟩ := qbd_el E
  have e_h37 := qfr_Jk q_h37 (List.mem_of_getElem? (i := 7) rfl) e_h32
  exact qsome_f (Q := fun z => qfr w_X3_clear h ((fun z : qa_M => z) z)) E e_h37
def wf_X9_scan_b283 : List (Nat × Nat) := [(1, 3), (1, 6)]
theorem fr_X9_scan_b283 (h : qa_M) {z : qa_M} (E : f_X9_scan_b283 h = some z) : qfr wf_X9_scan_b283 h ((fun z : qa_M => z) z) := by
  unfold f_X9_scan_b283 at E
  have e_h : qfr wf_X9_scan_b283 h h := qfr_rf
  rcases qif_el E with E | E
  · exact qsome_f (Q := fun z => qfr wf_X9_scan_b283 h ((fun z : qa_M => z) z)) E e_h
  · obtain ⟨-, E⟩ := qck_el E
    rcases qif_el E with E | E
    · obtain ⟨h317, q_h317, E⟩ := qbd_el E
      have e_h317 := qfr_Ik q_h317 (List.mem_of_getElem? (i := 1) rfl) e_h
      obtain ⟨h327, q_h327, E⟩ := qbd_el E
      have e_h327 := qfr_Ik q_h327 (List.mem_of_getElem? (i := 0) rfl) e_h317
      exact qsome_f (Q := fun z => qfr wf_X9_scan_b283 h ((fun z : qa_M => z) z)) E e_h327
    · exact qsome_f (Q := fun z => qfr wf_X9_scan_b283 h ((fun z : qa_M => z) z)) E e_h
def wf_X9_scan_b219 : List (Nat × Nat) := [(1, 3), (1, 4), (1, 6)]
theorem fr_X9_scan_b219 (h : qa_M) {z : qa_M} (E : f_X9_scan_b219 h = some z) : qfr wf_X9_scan_b219 h ((fun z : qa_M => z) z) := by
  unfold f_X9_scan_b219 at E
  have e_h : qfr wf_X9_scan_b219 h h := qfr_rf
  rcases qif_el E with E | E
  · rcases qif_el E with E | E
    · exact qsome_f (Q := fun z => qfr wf_X9_scan_b219 h ((fun z : qa_M => z) z)) E e_h
    · obtain ⟨h239, q_h239, E⟩ := qbd_el E
      have e_h239 := qfr_Ik q_h239 (List.mem_of_getElem? (i := 1) rfl) e_h
      obtain ⟨-, E⟩ := qck_el E
      obtain ⟨h252, q_h252, E⟩ := qbd_el E
      have e_h252 := qfr_Ik q_h252 (List.mem_of_getElem? (i := 2) rfl) e_h239
      obtain ⟨h262, q_h262, E⟩ := qbd_el E
      have e_h262 := qfr_Ik q_h262 (List.mem_of_getElem? (i := 0) rfl) e_h252
      rcases qif_el E with E | E
      · exact qfr_tr e_h262 (qfr_sub (qsub_c (List.mem_of_getElem? (i := 0) rfl) (qsub_c (List.mem_of_getElem? (i := 2) rfl) qsub_nil)) (fr_X9_scan_b283 h262 E))
      · rcases qif_el E with E | E
        · exact qfr_tr e_h262 (qfr_sub (qsub_c (List.mem_of_getElem? (i := 0) rfl) (qsub_c (List.mem_of_getElem? (i := 2) rfl) qsub_nil)) (fr_X9_scan_b283 h262 E))
        · exact qsome_f (Q := fun z => qfr wf_X9_scan_b219 h ((fun z : qa_M => z) z)) E e_h262
  · exact qsome_f (Q := fun z => qfr wf_X9_scan_b219 h ((fun z : qa_M => z) z)) E e_h
def wf_X9_scan_b154 : List (Nat × Nat) := [(1, 3), (1, 4), (1, 6)]
theorem fr_X9_scan_b154 (h : qa_M) {z : ((qa_M) ⊕ qa_M)} (E : f_X9_scan_b154 h = some z) : qfr wf_X9_scan_b154 h ((Sum.elim (fun z : qa_M => z) (fun z : qa_M => z)) z) := by
  unfold f_X9_scan_b154 at E
  have e_h : qfr wf_X9_scan_b154 h h := qfr_rf
  rcases qif_el E with E | E
  · refine qup_f (Q := fun z => qfr wf_X9_scan_b154 h ((Sum.elim (fun z : qa_M => z) (fun z : qa_M => z)) z)) E (fun rz E => ?_)
    exact qfr_tr e_h (qfr_sub (qsub_c (List.mem_of_getElem? (i := 0) rfl) (qsub_c (List.mem_of_getElem? (i := 1) rfl) (qsub_c (List.mem_of_getElem? (i := 2) rfl) qsub_nil))) (fr_X9_scan_b219 h E))
  · rcases qif_el E with E | E
    · refine qup_f (Q := fun z => qfr wf_X9_scan_b154 h ((Sum.elim (fun z : qa_M => z) (fun z : qa_M => z)) z)) E (fun rz E => ?_)
      exact qfr_tr e_h (qfr_sub (qsub_c (List.mem_of_getElem? (i := 0) rfl) (qsub_c (List.mem_of_getElem? (i := 1) rfl) (qsub_c (List.mem_of_getElem? (i := 2) rfl) qsub_nil))) (fr_X9_scan_b219 h E))
    · obtain ⟨-, E⟩ := qck_el E
      rcases qif_el E with E | E
      · refine qup_f (Q := fun z => qfr wf_X9_scan_b154 h ((Sum.elim (fun z : qa_M => z) (fun z : qa_M => z)) z)) E (fun rz E => ?_)
        exact qfr_tr e_h (qfr_sub (qsub_c (List.mem_of_getElem? (i := 0) rfl) (qsub_c (List.mem_of_getElem? (i := 1) rfl) (qsub_c (List.mem_of_getElem? (i := 2) rfl) qsub_nil))) (fr_X9_scan_b219 h E))
      · obtain ⟨-, E⟩ := qck_el E
        rcases qif_el E with E | E
        · refine qup_f (Q := fun z => qfr wf_X9_scan_b154 h ((Sum.elim (fun z : qa_M => z) (fun z : qa_M => z)) z)) E (fun rz E => ?_)
          exact qfr_tr e_h (qfr_sub (qsub_c (List.mem_of_getElem? (i := 0) rfl) (qsub_c (List.mem_of_getElem? (i := 1) rfl) (qsub_c (List.mem_of_getElem? (i := 2) rfl) qsub_nil))) (fr_X9_scan_b219 h E))
        · obtain ⟨h203, q_h203, E⟩ := qbd_el E
          have e_h203 := qfr_Ik q_h203 (List.mem_of_getElem? (i := 1) rfl) e_h
          obtain ⟨h213, q_h213, E⟩ := qbd_el E
          have e_h213 := qfr_Ik q_h213 (List.mem_of_getElem? (i := 0) rfl) e_h203
          exact qsome_f (Q := fun z => qfr wf_X9_scan_b154 h ((Sum.elim (fun z : qa_M => z) (fun z : qa_M => z)) z)) E e_h213
theorem fr_X9_scan_b154_loop (h : qa_M) {z : qa_M} (E : f_X9_scan_b154_loop h = some z) : qfr wf_X9_scan_b154 h ((fun z : qa_M => z) z) :=
  qlp_ind (fun sz : qa_M => qfr wf_X9_scan_b154 (sz) ((fun z : qa_M => z) z)) (fun sz E => fr_X9_scan_b154 sz E) (fun sz sz2 E ih => qfr_tr (fr_X9_scan_b154 sz E) ih) h E
def wf_X9_scan_b138 : List (Nat × Nat) := [(1, 3), (1, 6)]
theorem fr_X9_scan_b138 (s1 : Int32) (h : qa_M) {z : ((qa_M) ⊕ qa_M)} (E : f_X9_scan_b138 s1 h = some z) : qfr wf_X9_scan_b138 h ((Sum.elim (fun z : qa_M => z) (fun z : qa_M => z)) z) := by
  unfold f_X9_scan_b138 at E
  have e_h : qfr wf_X9_scan_b138 h h := qfr_rf
  obtain ⟨h138, q_h138, E⟩ := qbd_el E
  have e_h138 := qfr_Ik q_h138 (List.mem_of_getElem? (i := 1) rfl) e_h
  obtain ⟨h148, q_h148, E⟩ := qbd_el E
  have e_h148 := qfr_Ik q_h148 (List.mem_of_getElem? (i := 0) rfl) e_h138
  exact qsome_f (Q := fun z => qfr wf_X9_scan_b138 h ((Sum.elim (fun z : qa_M => z) (fun z : qa_M => z)) z)) E e_h148
def wf_X9_scan_b56 : List (Nat × Nat) := [(1, 3), (1, 4), (1, 6)]
theorem fr_X9_scan_b56 (h : qa_M) {z : ((qa_M) ⊕ qa_M)} (E : f_X9_scan_b56 h = some z) : qfr wf_X9_scan_b56 h ((Sum.elim (fun z : qa_M => z) (fun z : qa_M => z)) z) := by
  unfold f_X9_scan_b56 at E
  have e_h : qfr wf_X9_scan_b56 h h := qfr_rf
  rcases qif_el E with E | E
  · refine qup_f (Q := fun z => qfr wf_X9_scan_b56 h ((Sum.elim (fun z : qa_M => z) (fun z : qa_M => z)) z)) E (fun rz E => ?_)
    exact qfr_tr e_h (qfr_sub (qsub_c (List.mem_of_getElem? (i := 0) rfl) (qsub_c (List.mem_of_getElem? (i := 1) rfl) (qsub_c (List.mem_of_getElem? (i := 2) rfl) qsub_nil))) (fr_X9_scan_b154_loop h E))
  · obtain ⟨-, E⟩ := qck_el E
    rcases qif_el E with E | E
    · refine qup_f (Q := fun z => qfr wf_X9_scan_b56 h ((Sum.elim (fun z : qa_M => z) (fun z : qa_M => z)) z)) E (fun rz E => ?_)
      exact qfr_tr e_h (qfr_sub (qsub_c (List.mem_of_getElem? (i := 0) rfl) (qsub_c (List.mem_of_getElem? (i := 1) rfl) (qsub_c (List.mem_of_getElem? (i := 2) rfl) qsub_nil))) (fr_X9_scan_b154_loop h E))
    · obtain ⟨-, E⟩ := qck_el E
      rcases qif_el E with E | E
      · refine qup_f (Q := fun z => qfr wf_X9_scan_b56 h ((Sum.elim (fun z : qa_M => z) (fun z : qa_M => z)) z)) E (fun rz E => ?_)
        exact qfr_tr e_h (qfr_sub (qsub_c (List.mem_of_getElem? (i := 0) rfl) (qsub_c (List.mem_of_getElem? (i := 1) rfl) (qsub_c (List.mem_of_getElem? (i := 2) rfl) qsub_nil))) (fr_X9_scan_b154_loop h E))
      · obtain ⟨h97, q_h97, E⟩ := qbd_el E
        have e_h97 := qfr_Ik q_h97 (List.mem_of_getElem? (i := 1) rfl) e_h
        rcases qif_el E with E | E
        · exact qfr_tr e_h97 (qfr_sub (qsub_c (List.mem_of_getElem? (i := 0) rfl) (qsub_c (List.mem_of_getElem? (i := 2) rfl) qsub_nil)) (fr_X9_scan_b138 (-1 : Int32) h97 E))
        · obtain ⟨-, E⟩ := qck_el E
          exact qfr_tr e_h97 (qfr_sub (qsub_c (List.mem_of_getElem? (i := 0) rfl) (qsub_c (List.mem_of_getElem? (i := 2) rfl) qsub_nil)) (fr_X9_scan_b138 ((((h97.1 1 5) * (10 : Int32)) + (h97.1 2 (h97.1 1 2).toNatClampNeg)) - (48 : Int32)) h97 E))
theorem fr_X9_scan_b56_loop (h : qa_M) {z : qa_M} (E : f_X9_scan_b56_loop h = some z) : qfr wf_X9_scan_b56 h ((fun z : qa_M => z) z) :=
  qlp_ind (fun sz : qa_M => qfr wf_X9_scan_b56 (sz) ((fun z : qa_M => z) z)) (fun sz E => fr_X9_scan_b56 sz E) (fun sz sz2 E ih => qfr_tr (fr_X9_scan_b56 sz E) ih) h E
def wf_X9_scan_b38 : List (Nat × Nat) := [(1, 3), (1, 4), (1, 5), (1, 6)]
theorem fr_X9_scan_b38 (h : qa_M) {z : qa_M} (E : f_X9_scan_b38 h = some z) : qfr wf_X9_scan_b38 h ((fun z : qa_M => z) z) := by
  unfold f_X9_scan_b38 at E
  have e_h : qfr wf_X9_scan_b38 h h := qfr_rf
  obtain ⟨h43, q_h43, E⟩ := qbd_el E
  have e_h43 := qfr_Ik q_h43 (List.mem_of_getElem? (i := 2) rfl) e_h
  obtain ⟨h48, q_h48, E⟩ := qbd_el E
  have e_h48 := qfr_Ik q_h48 (List.mem_of_getElem? (i := 3) rfl) e_h43
  obtain ⟨h53, q_h53, E⟩ := qbd_el E
  have e_h53 := qfr_Ik q_h53 (List.mem_of_getElem? (i := 1) rfl) e_h48
  exact qfr_tr e_h53 (qfr_sub (qsub_c (List.mem_of_getElem? (i := 0) rfl) (qsub_c (List.mem_of_getElem? (i := 1) rfl) (qsub_c (List.mem_of_getElem? (i := 3) rfl) qsub_nil))) (fr_X9_scan_b56_loop h53 E))
def wf_X9_scan_b0 : List (Nat × Nat) := [(1, 3), (1, 4), (1, 5), (1, 6)]
theorem fr_X9_scan_b0 (h : qa_M) {z : ((qa_M) ⊕ qa_M)} (E : f_X9_scan_b0 h = some z) : qfr wf_X9_scan_b0 h ((Sum.elim (fun z : qa_M => z) (fun z : qa_M => z)) z) := by
  unfold f_X9_scan_b0 at E
  have e_h : qfr wf_X9_scan_b0 h h := qfr_rf
  rcases qif_el E with E | E
  · refine qup_f (Q := fun z => qfr wf_X9_scan_b0 h ((Sum.elim (fun z : qa_M => z) (fun z : qa_M => z)) z)) E (fun rz E => ?_)
    exact qfr_tr e_h (qfr_sub (qsub_c (List.mem_of_getElem? (i := 0) rfl) (qsub_c (List.mem_of_getElem? (i := 1) rfl) (qsub_c (List.mem_of_getElem? (i := 2) rfl) (qsub_c (List.mem_of_getElem? (i := 3) rfl) qsub_nil)))) (fr_X9_scan_b38 h E))
  · obtain ⟨-, E⟩ := qck_el E
    rcases qif_el E with E | E
    · obtain ⟨h32, q_h32, E⟩ := qbd_el E
      have e_h32 := qfr_Ik q_h32 (List.mem_of_getElem? (i := 0) rfl) e_h
      exact qsome_f (Q := fun z => qfr wf_X9_scan_b0 h ((Sum.elim (fun z : qa_M => z) (fun z : qa_M => z)) z)) E e_h32
    · refine qup_f (Q := fun z => qfr wf_X9_scan_b0 h ((Sum.elim (fun z : qa_M => z) (fun z : qa_M => z)) z)) E (fun rz E => ?_)
      exact qfr_tr e_h (qfr_sub (qsub_c (List.mem_of_getElem? (i := 0) rfl) (qsub_c (List.mem_of_getElem? (i := 1) rfl) (qsub_c (List.mem_of_getElem? (i := 2) rfl) (qsub_c (List.mem_of_getElem? (i := 3) rfl) qsub_nil)))) (fr_X9_scan_b38 h E))
theorem fr_X9_scan_b0_loop (h : qa_M) {z : qa_M} (E : f_X9_scan_b0_loop h = some z) : qfr wf_X9_scan_b0 h ((fun z : qa_M => z) z) :=
  qlp_ind (fun sz : qa_M => qfr wf_X9_scan_b0 (sz) ((fun z : qa_M => z) z)) (fun sz E => fr_X9_scan_b0 sz E) (fun sz sz2 E ih => qfr_tr (fr_X9_scan_b0 sz E) ih) h E
def w_X9_scan : List (Nat × Nat) := [(1, 3), (1, 4), (1, 5), (1, 6)]
theorem fr_X9_scan (h : qa_M) {z : qa_M} (E : m_X9_scan h = some z) : qfr w_X9_scan h ((fun z : qa_M => z) z) := by
  unfold m_X9_scan at E
  have e_h : qfr w_X9_scan h h := qfr_rf
  exact qfr_tr e_h (qfr_sub (qsub_c (List.mem_of_getElem? (i := 0) rfl) (qsub_c (List.mem_of_getElem? (i := 1) rfl) (qsub_c (List.mem_of_getElem? (i := 2) rfl) (qsub_c (List.mem_of_getElem? (i := 3) rfl) qsub_nil)))) (fr_X9_scan_b0_loop h E))
def w_X9_begin : List (Nat × Nat) := [(1, 3), (1, 4), (1, 5), (1, 6), (1, 8)]
theorem fr_X9_begin (h : qa_M) {z : qa_M} (E : m_X9_begin h = some z) : qfr w_X9_begin h ((fun z : qa_M => z) z) := by
  unfold m_X9_begin at E
  have e_h : qfr w_X9_begin h h := qfr_rf
  obtain ⟨h2, q_h2, E⟩ := qbd_el E
  have e_h2 := qfr_Ik q_h2 (List.mem_of_getElem? (i := 0) rfl) e_h
  obtain ⟨h7, q_h7, E⟩ := qbd_el E
  have e_h7 := qfr_Ik q_h7 (List.mem_of_getElem? (i := 4) rfl) e_h2
  obtain ⟨h11, E0, E⟩ := qbv_el E
  have e_h11 := qfr_tr e_h7 (qfr_sub (qsub_c (List.mem_of_getElem? (i := 0) rfl) (qsub_c (List.mem_of_getElem? (i := 1) rfl) (qsub_c (List.mem_of_getElem? (i := 2) rfl) (qsub_c (List.mem_of_getElem? (i := 3) rfl) qsub_nil)))) (fr_X9_scan h7 E0))
  exact qsome_f (Q := fun z => qfr w_X9_begin h ((fun z : qa_M => z) z)) E e_h11
theorem fr_X9_among_b106 (k1 : Nat) (x2 : Int32) (x3 : Int32) (x4 : Int32) (h : qa_M) {z : ((Int32 × Int32 × Int32 × qa_M) ⊕ (Int32 × qa_M))} (E : f_X9_among_b106 k1 x2 x3 x4 h = some z) : qfr wz h ((Sum.elim (fun z : Int32 × Int32 × Int32 × qa_M => z.2.2.2) (fun z : Int32 × qa_M => z.2)) z) := by
  unfold f_X9_among_b106 at E
  have e_h : qfr wz h h := qfr_rf
  obtain ⟨v106, -, E⟩ := qbd_el E
  exact qsome_f (Q := fun z => qfr wz h ((Sum.elim (fun z : Int32 × Int32 × Int32 × qa_M => z.2.2.2) (fun z : Int32 × qa_M => z.2)) z)) E e_h
theorem fr_X9_among_b49 (k1 : Nat) (x2 : Int32) (x3 : Int32) (x4 : Int32) (h : qa_M) {z : ((Int32 × Int32 × Int32 × qa_M) ⊕ (Int32 × qa_M))} (E : f_X9_among_b49 k1 x2 x3 x4 h = some z) : qfr wz h ((Sum.elim (fun z : Int32 × Int32 × Int32 × qa_M => z.2.2.2) (fun z : Int32 × qa_M => z.2)) z) := by
  unfold f_X9_among_b49 at E
  have e_h : qfr wz h h := qfr_rf
  rcases qif_el E with E | E
  · refine qup_f (Q := fun z => qfr wz h ((Sum.elim (fun z : Int32 × Int32 × Int32 × qa_M => z.2.2.2) (fun z : Int32 × qa_M => z.2)) z)) E (fun rz E => ?_)
    exact qsome_f (Q := fun z => qfr wz h ((fun z : Int32 × qa_M => z.2) z)) E e_h
  · obtain ⟨v59, -, E⟩ := qbd_el E
    obtain ⟨v66, -, E⟩ := qbd_el E
    exact qfr_tr e_h (qfr_sub qsub_nil (fr_X9_among_b106 k1 v59 v66 x4 h E))
theorem fr_X9_among_b105 (k1 : Nat) (x2 : Int32) (x4 : Int32) (s0 : Int32) (h : qa_M) {z : ((Int32 × Int32 × Int32 × qa_M) ⊕ (Int32 × qa_M))} (E : f_X9_among_b105 k1 x2 x4 s0 h = some z) : qfr wz h ((Sum.elim (fun z : Int32 × Int32 × Int32 × qa_M => z.2.2.2) (fun z : Int32 × qa_M => z.2)) z) := by
  unfold f_X9_among_b105 at E
  have e_h : qfr wz h h := qfr_rf
  obtain ⟨v105, -, E⟩ := qbd_el E
  exact qfr_tr e_h (qfr_sub qsub_nil (fr_X9_among_b106 k1 x2 v105 x4 h E))
theorem fr_X9_among_b104 (k1 : Nat) (x2 : Int32) (x4 : Int32) (h : qa_M) {z : ((Int32 × Int32 × Int32 × qa_M) ⊕ (Int32 × qa_M))} (E : f_X9_among_b104 k1 x2 x4 h = some z) : qfr wz h ((Sum.elim (fun z : Int32 × Int32 × Int32 × qa_M => z.2.2.2) (fun z : Int32 × qa_M => z.2)) z) := by
  unfold f_X9_among_b104 at E
  have e_h : qfr wz h h := qfr_rf
  exact qfr_tr e_h (qfr_sub qsub_nil (fr_X9_among_b105 k1 x2 x4 (-1 : Int32) h E))
theorem fr_X9_among_b20 (k1 : Nat) (x2 : Int32) (x3 : Int32) (x4 : Int32) (h : qa_M) {z : ((Int32 × Int32 × Int32 × qa_M) ⊕ (Int32 × qa_M))} (E : f_X9_among_b20 k1 x2 x3 x4 h = some z) : qfr wz h ((Sum.elim (fun z : Int32 × Int32 × Int32 × qa_M => z.2.2.2) (fun z : Int32 × qa_M => z.2)) z) := by
  unfold f_X9_among_b20 at E
  have e_h : qfr wz h h := qfr_rf
  rcases qif_el E with E | E
  · refine qup_f (Q := fun z => qfr wz h ((Sum.elim (fun z : Int32 × Int32 × Int32 × qa_M => z.2.2.2) (fun z : Int32 × qa_M => z.2)) z)) E (fun rz E => ?_)
    exact qsome_f (Q := fun z => qfr wz h ((fun z : Int32 × qa_M => z.2) z)) E e_h
  · rcases qif_el E with E | E
    · exact qfr_tr e_h (qfr_sub qsub_nil (fr_X9_among_b49 k1 x2 x3 x4 h E))
    · obtain ⟨-, E⟩ := qck_el E
      rcases qif_el E with E | E
      · exact qfr_tr e_h (qfr_sub qsub_nil (fr_X9_among_b49 k1 x2 x3 x4 h E))
      · rcases qif_el E with E | E
        · exact qfr_tr e_h (qfr_sub qsub_nil (fr_X9_among_b106 k1 x2 x3 x4 h E))
        · rcases qif_el E with E | E
          · exact qfr_tr e_h (qfr_sub qsub_nil (fr_X9_among_b104 k1 x2 x4 h E))
          · obtain ⟨-, E⟩ := qck_el E
            obtain ⟨-, E⟩ := qck_el E
            rcases qif_el E with E | E
            · exact qfr_tr e_h (qfr_sub qsub_nil (fr_X9_among_b105 k1 x2 x4 (x3 + (1 : Int32)) h E))
            · exact qfr_tr e_h (qfr_sub qsub_nil (fr_X9_among_b104 k1 x2 x4 h E))
theorem fr_X9_among_b20_loop (k1 : Nat) (x2 : Int32) (x3 : Int32) (x4 : Int32) (h : qa_M) {z : (Int32 × qa_M)} (E : f_X9_among_b20_loop k1 x2 x3 x4 h = some z) : qfr wz h ((fun z : Int32 × qa_M => z.2) z) :=
  qlp_ind (fun sz : Int32 × Int32 × Int32 × qa_M => qfr wz (sz.2.2.2) ((fun z : Int32 × qa_M => z.2) z)) (fun sz E => fr_X9_among_b20 k1 sz.1 sz.2.1 sz.2.2.1 sz.2.2.2 E) (fun sz sz2 E ih => qfr_tr (fr_X9_among_b20 k1 sz.1 sz.2.1 sz.2.2.1 sz.2.2.2 E) ih) (x2, x3, x4, h) E
theorem fr_X9_among (k1 : Nat) (h : qa_M) {z : (Int32 × qa_M)} (E : m_X9_among k1 h = some z) : qfr wz h ((fun z : Int32 × qa_M => z.2) z) := by
  unfold m_X9_among at E
  have e_h : qfr wz h h := qfr_rf
  rcases qif_el E with E | E
  · obtain ⟨v11, -, E⟩ := qbd_el E
    obtain ⟨v16, -, E⟩ := qbd_el E
    obtain ⟨v18, -, E⟩ := qbd_el E
    exact qfr_tr e_h (qfr_sub qsub_nil (fr_X9_among_b20_loop k1 v11 v16 v18 h E))
  · exact qsome_f (Q := fun z => qfr wz h ((fun z : Int32 × qa_M => z.2) z)) E e_h
def w_X9_failAt : List (Nat × Nat) := [(1, 8)]
theorem fr_X9_failAt (x1 : Int32) (x2 : Int32) (h : qa_M) {z : (Int32 × qa_M)} (E : m_X9_failAt x1 x2 h = some z) : qfr w_X9_failAt h ((fun z : Int32 × qa_M => z.2) z) := by
  unfold m_X9_failAt at E
  have e_h : qfr w_X9_failAt h h := qfr_rf
  rcases qif_el E with E | E
  · obtain ⟨h16, q_h16, E⟩ := qbd_el E
    have e_h16 := qfr_Ik q_h16 (List.mem_of_getElem? (i := 0) rfl) e_h
    exact qsome_f (Q := fun z => qfr w_X9_failAt h ((fun z : Int32 × qa_M => z.2) z)) E e_h16
  · exact qsome_f (Q := fun z => qfr w_X9_failAt h ((fun z : Int32 × qa_M => z.2) z)) E e_h
def w_X9_fail : List (Nat × Nat) := [(1, 8)]
theorem fr_X9_fail (x1 : Int32) (h : qa_M) {z : (Int32 × qa_M)} (E : m_X9_fail x1 h = some z) : qfr w_X9_fail h ((fun z : Int32 × qa_M => z.2) z) := by
  unfold m_X9_fail at E
  have e_h : qfr w_X9_fail h h := qfr_rf
  obtain ⟨c6, h6, E0, E⟩ := qbn_el E
  have e_h6 := qfr_tr e_h (qfr_sub (qsub_c (List.mem_of_getElem? (i := 0) rfl) qsub_nil) (fr_X9_failAt (h.1 1 4) x1 h E0))
  obtain ⟨-, E⟩ := qpr_el E
  exact qsome_f (Q := fun z => qfr w_X9_fail h ((fun z : Int32 × qa_M => z.2) z)) E e_h6
theorem fr_X4_isFull (x1 : Int32) (h : qa_M) {z : (Int32 × qa_M)} (E : m_X4_isFull x1 h = some z) : qfr wz h ((fun z : Int32 × qa_M => z.2) z) := by
  unfold m_X4_isFull at E
  have e_h : qfr wz h h := qfr_rf
  rcases qif_el E with E | E
  · rcases qif_el E with E | E
    · exact qsome_f (Q := fun z => qfr wz h ((fun z : Int32 × qa_M => z.2) z)) E e_h
    · exact qsome_f (Q := fun z => qfr wz h ((fun z : Int32 × qa_M => z.2) z)) E e_h
  · rcases qif_el E with E | E
    · rcases qif_el E with E | E
      · exact qsome_f (Q := fun z => qfr wz h ((fun z : Int32 × qa_M => z.2) z)) E e_h
      · exact qsome_f (Q := fun z => qfr wz h ((fun z : Int32 × qa_M => z.2) z)) E e_h
    · rcases qif_el E with E | E
      · exact qsome_f (Q := fun z => qfr wz h ((fun z : Int32 × qa_M => z.2) z)) E e_h
      · rcases qif_el E with E | E
        · exact qsome_f (Q := fun z => qfr wz h ((fun z : Int32 × qa_M => z.2) z)) E e_h
        · exact qsome_f (Q := fun z => qfr wz h ((fun z : Int32 × qa_M => z.2) z)) E e_h
def wf_X9_takeNumber_b34 : List (Nat × Nat) := [(1, 8)]
theorem fr_X9_takeNumber_b34 (h : qa_M) {z : (Int32 × qa_M)} (E : f_X9_takeNumber_b34 h = some z) : qfr wf_X9_takeNumber_b34 h ((fun z : Int32 × qa_M => z.2) z) := by
  unfold f_X9_takeNumber_b34 at E
  have e_h : qfr wf_X9_takeNumber_b34 h h := qfr_rf
  obtain ⟨c40, h40, E0, E⟩ := qbn_el E
  have e_h40 := qfr_tr e_h (qfr_sub (qsub_c (List.mem_of_getElem? (i := 0) rfl) qsub_nil) (fr_X9_failAt (h.1 1 4) (1 : Int32) h E0))
  obtain ⟨-, E⟩ := qpr_el E
  exact qsome_f (Q := fun z => qfr wf_X9_takeNumber_b34 h ((fun z : Int32 × qa_M => z.2) z)) E e_h40
def w_X9_takeNumber : List (Nat × Nat) := [(1, 3), (1, 4), (1, 5), (1, 6), (1, 7), (1, 8)]
theorem fr_X9_takeNumber (x1 : Int32) (x2 : Int32) (h : qa_M) {z : (Int32 × qa_M)} (E : m_X9_takeNumber x1 x2 h = some z) : qfr w_X9_takeNumber h ((fun z : Int32 × qa_M => z.2) z) := by
  unfold m_X9_takeNumber at E
  have e_h : qfr w_X9_takeNumber h h := qfr_rf
  rcases qif_el E with E | E
  · rcases qif_el E with E | E
    · exact qfr_tr e_h (qfr_sub (qsub_c (List.mem_of_getElem? (i := 5) rfl) qsub_nil) (fr_X9_takeNumber_b34 h E))
    · rcases qif_el E with E | E
      · obtain ⟨h49, q_h49, E⟩ := qbd_el E
        have e_h49 := qfr_Ik q_h49 (List.mem_of_getElem? (i := 4) rfl) e_h
        obtain ⟨h53, E0, E⟩ := qbv_el E
        have e_h53 := qfr_tr e_h49 (qfr_sub (qsub_c (List.mem_of_getElem? (i := 0) rfl) (qsub_c (List.mem_of_getElem? (i := 1) rfl) (qsub_c (List.mem_of_getElem? (i := 2) rfl) (qsub_c (List.mem_of_getElem? (i := 3) rfl) qsub_nil)))) (fr_X9_scan h49 E0))
        exact qsome_f (Q := fun z => qfr w_X9_takeNumber h ((fun z : Int32 × qa_M => z.2) z)) E e_h53
      · exact qfr_tr e_h (qfr_sub (qsub_c (List.mem_of_getElem? (i := 5) rfl) qsub_nil) (fr_X9_takeNumber_b34 h E))
  · obtain ⟨c14, h14, E0, E⟩ := qbn_el E
    have e_h14 := qfr_tr e_h (qfr_sub (qsub_c (List.mem_of_getElem? (i := 5) rfl) qsub_nil) (fr_X9_failAt (h.1 1 4) (0 : Int32) h E0))
    obtain ⟨-, E⟩ := qpr_el E
    exact qsome_f (Q := fun z => qfr w_X9_takeNumber h ((fun z : Int32 × qa_M => z.2) z)) E e_h14
def w_X4_readWide : List (Nat × Nat) := [(1, 3), (1, 4), (1, 5), (1, 6), (1, 7), (1, 8), (14, 1), (14, 2)]
theorem fr_X4_readWide (h : qa_M) {z : (Int32 × qa_M)} (E : m_X4_readWide h = some z) : qfr w_X4_readWide h ((fun z : Int32 × qa_M => z.2) z) := by
  unfold m_X4_readWide at E
  have e_h : qfr w_X4_readWide h h := qfr_rf
  obtain ⟨c7, h7, E0, E⟩ := qbn_el E
  have e_h7 := qfr_tr e_h (qfr_sub (qsub_c (List.mem_of_getElem? (i := 0) rfl) (qsub_c (List.mem_of_getElem? (i := 1) rfl) (qsub_c (List.mem_of_getElem? (i := 2) rfl) (qsub_c (List.mem_of_getElem? (i := 3) rfl) (qsub_c (List.mem_of_getElem? (i := 4) rfl) (qsub_c (List.mem_of_getElem? (i := 5) rfl) qsub_nil)))))) (fr_X9_takeNumber (2 : Int32) (6 : Int32) h E0))
  rcases qif_el E with E | E
  · exact qsome_f (Q := fun z => qfr w_X4_readWide h ((fun z : Int32 × qa_M => z.2) z)) E e_h7
  · obtain ⟨h26, q_h26, E⟩ := qbd_el E
    have e_h26 := qfr_Ik q_h26 (List.mem_of_getElem? (i := 6) rfl) e_h7
    obtain ⟨c36, h36, E0, E⟩ := qbn_el E
    have e_h36 := qfr_tr e_h26 (qfr_sub (qsub_c (List.mem_of_getElem? (i := 0) rfl) (qsub_c (List.mem_of_getElem? (i := 1) rfl) (qsub_c (List.mem_of_getElem? (i := 2) rfl) (qsub_c (List.mem_of_getElem? (i := 3) rfl) (qsub_c (List.mem_of_getElem? (i := 4) rfl) (qsub_c (List.mem_of_getElem? (i := 5) rfl) qsub_nil)))))) (fr_X9_takeNumber (2 : Int32) (6 : Int32) h26 E0))
    rcases qif_el E with E | E
    · exact qsome_f (Q := fun z => qfr w_X4_readWide h ((fun z : Int32 × qa_M => z.2) z)) E e_h36
    · obtain ⟨h55, q_h55, E⟩ := qbd_el E
      have e_h55 := qfr_Ik q_h55 (List.mem_of_getElem? (i := 7) rfl) e_h36
      exact qsome_f (Q := fun z => qfr w_X4_readWide h ((fun z : Int32 × qa_M => z.2) z)) E e_h55
def w_X4_readSquare : List (Nat × Nat) := [(1, 3), (1, 4), (1, 5), (1, 6), (1, 7), (1, 8), (20, 3), (20, 4)]
theorem fr_X4_readSquare (h : qa_M) {z : (Int32 × qa_M)} (E : m_X4_readSquare h = some z) : qfr w_X4_readSquare h ((fun z : Int32 × qa_M => z.2) z) := by
  unfold m_X4_readSquare at E
  have e_h : qfr w_X4_readSquare h h := qfr_rf
  obtain ⟨c14, h14, E0, E⟩ := qbn_el E
  have e_h14 := qfr_tr e_h (qfr_sub (qsub_c (List.mem_of_getElem? (i := 0) rfl) (qsub_c (List.mem_of_getElem? (i := 1) rfl) (qsub_c (List.mem_of_getElem? (i := 2) rfl) (qsub_c (List.mem_of_getElem? (i := 3) rfl) (qsub_c (List.mem_of_getElem? (i := 4) rfl) (qsub_c (List.mem_of_getElem? (i := 5) rfl) qsub_nil)))))) (fr_X9_takeNumber (0 : Int32) ((h.1 14 0) - (1 : Int32)) h E0))
  rcases qif_el E with E | E
  · exact qsome_f (Q := fun z => qfr w_X4_readSquare h ((fun z : Int32 × qa_M => z.2) z)) E e_h14
  · obtain ⟨h30, q_h30, E⟩ := qbd_el E
    have e_h30 := qfr_Ik q_h30 (List.mem_of_getElem? (i := 6) rfl) e_h14
    obtain ⟨c47, h47, E0, E⟩ := qbn_el E
    have e_h47 := qfr_tr e_h30 (qfr_sub (qsub_c (List.mem_of_getElem? (i := 0) rfl) (qsub_c (List.mem_of_getElem? (i := 1) rfl) (qsub_c (List.mem_of_getElem? (i := 2) rfl) (qsub_c (List.mem_of_getElem? (i := 3) rfl) (qsub_c (List.mem_of_getElem? (i := 4) rfl) (qsub_c (List.mem_of_getElem? (i := 5) rfl) qsub_nil)))))) (fr_X9_takeNumber (0 : Int32) ((h30.1 14 1) - (1 : Int32)) h30 E0))
    rcases qif_el E with E | E
    · exact qsome_f (Q := fun z => qfr w_X4_readSquare h ((fun z : Int32 × qa_M => z.2) z)) E e_h47
    · obtain ⟨h63, q_h63, E⟩ := qbd_el E
      have e_h63 := qfr_Ik q_h63 (List.mem_of_getElem? (i := 7) rfl) e_h47
      exact qsome_f (Q := fun z => qfr w_X4_readSquare h ((fun z : Int32 × qa_M => z.2) z)) E e_h63
def w_X4_readBox : List (Nat × Nat) := [(1, 3), (1, 4), (1, 5), (1, 6), (1, 7), (1, 8), (20, 3), (20, 4), (20, 5), (20, 6)]
theorem fr_X4_readBox (h : qa_M) {z : (Int32 × qa_M)} (E : m_X4_readBox h = some z) : qfr w_X4_readBox h ((fun z : Int32 × qa_M => z.2) z) := by
  unfold m_X4_readBox at E
  have e_h : qfr w_X4_readBox h h := qfr_rf
  obtain ⟨c1, h1, E0, E⟩ := qbn_el E
  have e_h1 := qfr_tr e_h (qfr_sub (qsub_c (List.mem_of_getElem? (i := 0) rfl) (qsub_c (List.mem_of_getElem? (i := 1) rfl) (qsub_c (List.mem_of_getElem? (i := 2) rfl) (qsub_c (List.mem_of_getElem? (i := 3) rfl) (qsub_c (List.mem_of_getElem? (i := 4) rfl) (qsub_c (List.mem_of_getElem? (i := 5) rfl) (qsub_c (List.mem_of_getElem? (i := 6) rfl) (qsub_c (List.mem_of_getElem? (i := 7) rfl) qsub_nil)))))))) (fr_X4_readSquare h E0))
  rcases qif_el E with E | E
  · exact qsome_f (Q := fun z => qfr w_X4_readBox h ((fun z : Int32 × qa_M => z.2) z)) E e_h1
  · obtain ⟨c24, h24, E0, E⟩ := qbn_el E
    have e_h24 := qfr_tr e_h1 (qfr_sub (qsub_c (List.mem_of_getElem? (i := 0) rfl) (qsub_c (List.mem_of_getElem? (i := 1) rfl) (qsub_c (List.mem_of_getElem? (i := 2) rfl) (qsub_c (List.mem_of_getElem? (i := 3) rfl) (qsub_c (List.mem_of_getElem? (i := 4) rfl) (qsub_c (List.mem_of_getElem? (i := 5) rfl) qsub_nil)))))) (fr_X9_takeNumber (h1.1 20 2) ((h1.1 14 0) - (1 : Int32)) h1 E0))
    rcases qif_el E with E | E
    · exact qsome_f (Q := fun z => qfr w_X4_readBox h ((fun z : Int32 × qa_M => z.2) z)) E e_h24
    · obtain ⟨h40, q_h40, E⟩ := qbd_el E
      have e_h40 := qfr_Ik q_h40 (List.mem_of_getElem? (i := 8) rfl) e_h24
      obtain ⟨c60, h60, E0, E⟩ := qbn_el E
      have e_h60 := qfr_tr e_h40 (qfr_sub (qsub_c (List.mem_of_getElem? (i := 0) rfl) (qsub_c (List.mem_of_getElem? (i := 1) rfl) (qsub_c (List.mem_of_getElem? (i := 2) rfl) (qsub_c (List.mem_of_getElem? (i := 3) rfl) (qsub_c (List.mem_of_getElem? (i := 4) rfl) (qsub_c (List.mem_of_getElem? (i := 5) rfl) qsub_nil)))))) (fr_X9_takeNumber (h40.1 20 3) ((h40.1 14 1) - (1 : Int32)) h40 E0))
      rcases qif_el E with E | E
      · exact qsome_f (Q := fun z => qfr w_X4_readBox h ((fun z : Int32 × qa_M => z.2) z)) E e_h60
      · obtain ⟨h76, q_h76, E⟩ := qbd_el E
        have e_h76 := qfr_Ik q_h76 (List.mem_of_getElem? (i := 9) rfl) e_h60
        exact qsome_f (Q := fun z => qfr w_X4_readBox h ((fun z : Int32 × qa_M => z.2) z)) E e_h76
theorem fr_X2_bit (x0 : Int32) (x1 : Int32) (h : qa_M) {z : (Int64 × qa_M)} (E : m_X2_bit x0 x1 h = some z) : qfr wz h ((fun z : Int64 × qa_M => z.2) z) := by
  unfold m_X2_bit at E
  have e_h : qfr wz h h := qfr_rf
  exact qsome_f (Q := fun z => qfr wz h ((fun z : Int64 × qa_M => z.2) z)) E e_h
theorem fr_X2_box_b39 (x0 : Int32) (x2 : Int32) (x3 : Int32) (x4 : Int64) (x6 : Int32) (h : qa_M) {z : ((Int32 × Int32 × Int32 × Int64 × Int32 × qa_M) ⊕ (Int64 × qa_M))} (E : f_X2_box_b39 x0 x2 x3 x4 x6 h = some z) : qfr wz h ((Sum.elim (fun z : Int32 × Int32 × Int32 × Int64 × Int32 × qa_M => z.2.2.2.2.2) (fun z : Int64 × qa_M => z.2)) z) := by
  unfold f_X2_box_b39 at E
  have e_h : qfr wz h h := qfr_rf
  obtain ⟨v39, -, E⟩ := qbd_el E
  exact qsome_f (Q := fun z => qfr wz h ((Sum.elim (fun z : Int32 × Int32 × Int32 × Int64 × Int32 × qa_M => z.2.2.2.2.2) (fun z : Int64 × qa_M => z.2)) z)) E e_h
theorem fr_X2_box_b15 (x0 : Int32) (x2 : Int32) (x3 : Int32) (x4 : Int64) (x6 : Int32) (x7 : Int32) (h : qa_M) {z : ((Int32 × Int32 × Int32 × Int64 × Int32 × Int32 × qa_M) ⊕ ((Int32 × Int32 × Int32 × Int64 × Int32 × qa_M) ⊕ (Int64 × qa_M)))} (E : f_X2_box_b15 x0 x2 x3 x4 x6 x7 h = some z) : qfr wz h ((Sum.elim (fun z : Int32 × Int32 × Int32 × Int64 × Int32 × Int32 × qa_M => z.2.2.2.2.2.2) (Sum.elim (fun z : Int32 × Int32 × Int32 × Int64 × Int32 × qa_M => z.2.2.2.2.2) (fun z : Int64 × qa_M => z.2))) z) := by
  unfold f_X2_box_b15 at E
  have e_h : qfr wz h h := qfr_rf
  rcases qif_el E with E | E
  · refine qup_f (Q := fun z => qfr wz h ((Sum.elim (fun z : Int32 × Int32 × Int32 × Int64 × Int32 × Int32 × qa_M => z.2.2.2.2.2.2) (Sum.elim (fun z : Int32 × Int32 × Int32 × Int64 × Int32 × qa_M => z.2.2.2.2.2) (fun z : Int64 × qa_M => z.2))) z)) E (fun rz E => ?_)
    exact qfr_tr e_h (qfr_sub qsub_nil (fr_X2_box_b39 x0 x2 x3 x4 x6 h E))
  · obtain ⟨c27, h27, E0, E⟩ := qbn_el E
    have e_h27 := qfr_tr e_h (qfr_sub qsub_nil (fr_X2_bit x7 x6 h E0))
    obtain ⟨v31, -, E⟩ := qbd_el E
    obtain ⟨v33, -, E⟩ := qbd_el E
    exact qsome_f (Q := fun z => qfr wz h ((Sum.elim (fun z : Int32 × Int32 × Int32 × Int64 × Int32 × Int32 × qa_M => z.2.2.2.2.2.2) (Sum.elim (fun z : Int32 × Int32 × Int32 × Int64 × Int32 × qa_M => z.2.2.2.2.2) (fun z : Int64 × qa_M => z.2))) z)) E e_h27
theorem fr_X2_box_b15_loop (x0 : Int32) (x2 : Int32) (x3 : Int32) (x4 : Int64) (x6 : Int32) (x7 : Int32) (h : qa_M) {z : ((Int32 × Int32 × Int32 × Int64 × Int32 × qa_M) ⊕ (Int64 × qa_M))} (E : f_X2_box_b15_loop x0 x2 x3 x4 x6 x7 h = some z) : qfr wz h ((Sum.elim (fun z : Int32 × Int32 × Int32 × Int64 × Int32 × qa_M => z.2.2.2.2.2) (fun z : Int64 × qa_M => z.2)) z) :=
  qlp_ind (fun sz : Int32 × Int32 × Int32 × Int64 × Int32 × Int32 × qa_M => qfr wz (sz.2.2.2.2.2.2) ((Sum.elim (fun z : Int32 × Int32 × Int32 × Int64 × Int32 × qa_M => z.2.2.2.2.2) (fun z : Int64 × qa_M => z.2)) z)) (fun sz E => fr_X2_box_b15 sz.1 sz.2.1 sz.2.2.1 sz.2.2.2.1 sz.2.2.2.2.1 sz.2.2.2.2.2.1 sz.2.2.2.2.2.2 E) (fun sz sz2 E ih => qfr_tr (fr_X2_box_b15 sz.1 sz.2.1 sz.2.2.1 sz.2.2.2.1 sz.2.2.2.2.1 sz.2.2.2.2.2.1 sz.2.2.2.2.2.2 E) ih) (x0, x2, x3, x4, x6, x7, h) E
theorem fr_X2_box_b6 (x0 : Int32) (x2 : Int32) (x3 : Int32) (x4 : Int64) (x6 : Int32) (h : qa_M) {z : ((Int32 × Int32 × Int32 × Int64 × Int32 × qa_M) ⊕ (Int64 × qa_M))} (E : f_X2_box_b6 x0 x2 x3 x4 x6 h = some z) : qfr wz h ((Sum.elim (fun z : Int32 × Int32 × Int32 × Int64 × Int32 × qa_M => z.2.2.2.2.2) (fun z : Int64 × qa_M => z.2)) z) := by
  unfold f_X2_box_b6 at E
  have e_h : qfr wz h h := qfr_rf
  rcases qif_el E with E | E
  · refine qup_f (Q := fun z => qfr wz h ((Sum.elim (fun z : Int32 × Int32 × Int32 × Int64 × Int32 × qa_M => z.2.2.2.2.2) (fun z : Int64 × qa_M => z.2)) z)) E (fun rz E => ?_)
    exact qsome_f (Q := fun z => qfr wz h ((fun z : Int64 × qa_M => z.2) z)) E e_h
  · obtain ⟨v13, -, E⟩ := qbd_el E
    exact qfr_tr e_h (qfr_sub qsub_nil (fr_X2_box_b15_loop x0 x2 x3 x4 x6 v13 h E))
theorem fr_X2_box_b6_loop (x0 : Int32) (x2 : Int32) (x3 : Int32) (x4 : Int64) (x6 : Int32) (h : qa_M) {z : (Int64 × qa_M)} (E : f_X2_box_b6_loop x0 x2 x3 x4 x6 h = some z) : qfr wz h ((fun z : Int64 × qa_M => z.2) z) :=
  qlp_ind (fun sz : Int32 × Int32 × Int32 × Int64 × Int32 × qa_M => qfr wz (sz.2.2.2.2.2) ((fun z : Int64 × qa_M => z.2) z)) (fun sz E => fr_X2_box_b6 sz.1 sz.2.1 sz.2.2.1 sz.2.2.2.1 sz.2.2.2.2.1 sz.2.2.2.2.2 E) (fun sz sz2 E ih => qfr_tr (fr_X2_box_b6 sz.1 sz.2.1 sz.2.2.1 sz.2.2.2.1 sz.2.2.2.2.1 sz.2.2.2.2.2 E) ih) (x0, x2, x3, x4, x6, h) E
theorem fr_X2_box (x0 : Int32) (x1 : Int32) (x2 : Int32) (x3 : Int32) (h : qa_M) {z : (Int64 × qa_M)} (E : m_X2_box x0 x1 x2 x3 h = some z) : qfr wz h ((fun z : Int64 × qa_M => z.2) z) := by
  unfold m_X2_box at E
  have e_h : qfr wz h h := qfr_rf
  obtain ⟨v1, -, E⟩ := qbd_el E
  obtain ⟨v4, -, E⟩ := qbd_el E
  exact qfr_tr e_h (qfr_sub qsub_nil (fr_X2_box_b6_loop x0 x2 x3 v1 v4 h E))
def w_X4_readWood : List (Nat × Nat) := [(1, 3), (1, 4), (1, 5), (1, 6), (1, 7), (1, 8), (14, 8), (20, 3), (20, 4), (20, 5), (20, 6)]
theorem fr_X4_readWood (h : qa_M) {z : (Int32 × qa_M)} (E : m_X4_readWood h = some z) : qfr w_X4_readWood h ((fun z : Int32 × qa_M => z.2) z) := by
  unfold m_X4_readWood at E
  have e_h : qfr w_X4_readWood h h := qfr_rf
  obtain ⟨c1, h1, E0, E⟩ := qbn_el E
  have e_h1 := qfr_tr e_h (qfr_sub (qsub_c (List.mem_of_getElem? (i := 0) rfl) (qsub_c (List.mem_of_getElem? (i := 1) rfl) (qsub_c (List.mem_of_getElem? (i := 2) rfl) (qsub_c (List.mem_of_getElem? (i := 3) rfl) (qsub_c (List.mem_of_getElem? (i := 4) rfl) (qsub_c (List.mem_of_getElem? (i := 5) rfl) (qsub_c (List.mem_of_getElem? (i := 7) rfl) (qsub_c (List.mem_of_getElem? (i := 8) rfl) (qsub_c (List.mem_of_getElem? (i := 9) rfl) (qsub_c (List.mem_of_getElem? (i := 10) rfl) qsub_nil)))))))))) (fr_X4_readBox h E0))
  rcases qif_el E with E | E
  · exact qsome_f (Q := fun z => qfr w_X4_readWood h ((fun z : Int32 × qa_M => z.2) z)) E e_h1
  · obtain ⟨c33, h33, E0, E⟩ := qbn_el E
    have e_h33 := qfr_tr e_h1 (qfr_sub qsub_nil (fr_X2_box (h1.1 20 2) (h1.1 20 3) (h1.1 20 4) (h1.1 20 5) h1 E0))
    obtain ⟨h37, q_h37, E⟩ := qbd_el E
    have e_h37 := qfr_Jk q_h37 (List.mem_of_getElem? (i := 6) rfl) e_h33
    exact qsome_f (Q := fun z => qfr w_X4_readWood h ((fun z : Int32 × qa_M => z.2) z)) E e_h37
theorem fr_X3_hillOn_b2 (a0 : Nat) (x1 : Int32) (x2 : Int32) (h : qa_M) {z : ((Int32 × Int32 × qa_M) ⊕ (Int32 × qa_M))} (E : f_X3_hillOn_b2 a0 x1 x2 h = some z) : qfr wz h ((Sum.elim (fun z : Int32 × Int32 × qa_M => z.2.2) (fun z : Int32 × qa_M => z.2)) z) := by
  unfold f_X3_hillOn_b2 at E
  have e_h : qfr wz h h := qfr_rf
  rcases qif_el E with E | E
  · refine qup_f (Q := fun z => qfr wz h ((Sum.elim (fun z : Int32 × Int32 × qa_M => z.2.2) (fun z : Int32 × qa_M => z.2)) z)) E (fun rz E => ?_)
    exact qsome_f (Q := fun z => qfr wz h ((fun z : Int32 × qa_M => z.2) z)) E e_h
  · obtain ⟨-, E⟩ := qck_el E
    rcases qif_el E with E | E
    · refine qup_f (Q := fun z => qfr wz h ((Sum.elim (fun z : Int32 × Int32 × qa_M => z.2.2) (fun z : Int32 × qa_M => z.2)) z)) E (fun rz E => ?_)
      exact qsome_f (Q := fun z => qfr wz h ((fun z : Int32 × qa_M => z.2) z)) E e_h
    · obtain ⟨v22, -, E⟩ := qbd_el E
      exact qsome_f (Q := fun z => qfr wz h ((Sum.elim (fun z : Int32 × Int32 × qa_M => z.2.2) (fun z : Int32 × qa_M => z.2)) z)) E e_h
theorem fr_X3_hillOn_b2_loop (a0 : Nat) (x1 : Int32) (x2 : Int32) (h : qa_M) {z : (Int32 × qa_M)} (E : f_X3_hillOn_b2_loop a0 x1 x2 h = some z) : qfr wz h ((fun z : Int32 × qa_M => z.2) z) :=
  qlp_ind (fun sz : Int32 × Int32 × qa_M => qfr wz (sz.2.2) ((fun z : Int32 × qa_M => z.2) z)) (fun sz E => fr_X3_hillOn_b2 a0 sz.1 sz.2.1 sz.2.2 E) (fun sz sz2 E ih => qfr_tr (fr_X3_hillOn_b2 a0 sz.1 sz.2.1 sz.2.2 E) ih) (x1, x2, h) E
theorem fr_X3_hillOn (a0 : Nat) (x1 : Int32) (h : qa_M) {z : (Int32 × qa_M)} (E : m_X3_hillOn a0 x1 h = some z) : qfr wz h ((fun z : Int32 × qa_M => z.2) z) := by
  unfold m_X3_hillOn at E
  have e_h : qfr wz h h := qfr_rf
  obtain ⟨v1, -, E⟩ := qbd_el E
  exact qfr_tr e_h (qfr_sub qsub_nil (fr_X3_hillOn_b2_loop a0 x1 v1 h E))
def w_X4_readHill : List (Nat × Nat) := [(1, 3), (1, 4), (1, 5), (1, 6), (1, 7), (1, 8), (14, 3), (15, 0), (16, 0), (20, 3), (20, 4)]
theorem fr_X4_readHill (h : qa_M) {z : (Int32 × qa_M)} (E : m_X4_readHill h = some z) : qfr w_X4_readHill h ((fun z : Int32 × qa_M => z.2) z) := by
  unfold m_X4_readHill at E
  have e_h : qfr w_X4_readHill h h := qfr_rf
  obtain ⟨v7, -, E⟩ := qbd_el E
  obtain ⟨c9, h9, E0, E⟩ := qbn_el E
  have e_h9 := qfr_tr e_h (qfr_sub (qsub_c (List.mem_of_getElem? (i := 0) rfl) (qsub_c (List.mem_of_getElem? (i := 1) rfl) (qsub_c (List.mem_of_getElem? (i := 2) rfl) (qsub_c (List.mem_of_getElem? (i := 3) rfl) (qsub_c (List.mem_of_getElem? (i := 4) rfl) (qsub_c (List.mem_of_getElem? (i := 5) rfl) (qsub_c (List.mem_of_getElem? (i := 9) rfl) (qsub_c (List.mem_of_getElem? (i := 10) rfl) qsub_nil)))))))) (fr_X4_readSquare h E0))
  rcases qif_el E with E | E
  · exact qsome_f (Q := fun z => qfr w_X4_readHill h ((fun z : Int32 × qa_M => z.2) z)) E e_h9
  · obtain ⟨c33, h33, E0, E⟩ := qbn_el E
    have e_h33 := qfr_tr e_h9 (qfr_sub qsub_nil (fr_X3_hillOn 14 (((6 : Int32) * (h9.1 20 3)) + (h9.1 20 2)) h9 E0))
    rcases qif_el E with E | E
    · obtain ⟨c57, h57, E0, E⟩ := qbn_el E
      have e_h57 := qfr_tr e_h33 (qfr_sub (qsub_c (List.mem_of_getElem? (i := 0) rfl) (qsub_c (List.mem_of_getElem? (i := 1) rfl) (qsub_c (List.mem_of_getElem? (i := 2) rfl) (qsub_c (List.mem_of_getElem? (i := 3) rfl) (qsub_c (List.mem_of_getElem? (i := 4) rfl) (qsub_c (List.mem_of_getElem? (i := 5) rfl) qsub_nil)))))) (fr_X9_takeNumber (1 : Int32) (9 : Int32) h33 E0))
      rcases qif_el E with E | E
      · exact qsome_f (Q := fun z => qfr w_X4_readHill h ((fun z : Int32 × qa_M => z.2) z)) E e_h57
      · obtain ⟨-, E⟩ := qck_el E
        obtain ⟨h91, q_h91, E⟩ := qbd_el E
        have e_h91 := qfr_I0 q_h91 (List.mem_of_getElem? (i := 7) rfl) e_h57
        obtain ⟨-, E⟩ := qck_el E
        obtain ⟨h113, q_h113, E⟩ := qbd_el E
        have e_h113 := qfr_I0 q_h113 (List.mem_of_getElem? (i := 8) rfl) e_h91
        obtain ⟨h124, q_h124, E⟩ := qbd_el E
        have e_h124 := qfr_Ik q_h124 (List.mem_of_getElem? (i := 6) rfl) e_h113
        exact qsome_f (Q := fun z => qfr w_X4_readHill h ((fun z : Int32 × qa_M => z.2) z)) E e_h124
    · obtain ⟨c46, h46, E0, E⟩ := qbn_el E
      have e_h46 := qfr_tr e_h33 (qfr_sub (qsub_c (List.mem_of_getElem? (i := 5) rfl) qsub_nil) (fr_X9_failAt v7 (5 : Int32) h33 E0))
      obtain ⟨-, E⟩ := qpr_el E
      exact qsome_f (Q := fun z => qfr w_X4_readHill h ((fun z : Int32 × qa_M => z.2) z)) E e_h46
def wf_X4_readRoad_b49 : List (Nat × Nat) := [(14, 4), (18, 0)]
theorem fr_X4_readRoad_b49 (h : qa_M) {z : (Int32 × qa_M)} (E : f_X4_readRoad_b49 h = some z) : qfr wf_X4_readRoad_b49 h ((fun z : Int32 × qa_M => z.2) z) := by
  unfold f_X4_readRoad_b49 at E
  have e_h : qfr wf_X4_readRoad_b49 h h := qfr_rf
  obtain ⟨c79, h79, E0, E⟩ := qbn_el E
  have e_h79 := qfr_tr e_h (qfr_sub qsub_nil (fr_X2_box (h.1 20 2) (h.1 20 3) (h.1 20 4) (h.1 20 5) h E0))
  obtain ⟨-, E⟩ := qck_el E
  obtain ⟨h82, q_h82, E⟩ := qbd_el E
  have e_h82 := qfr_J0 q_h82 (List.mem_of_getElem? (i := 1) rfl) e_h79
  obtain ⟨h93, q_h93, E⟩ := qbd_el E
  have e_h93 := qfr_Ik q_h93 (List.mem_of_getElem? (i := 0) rfl) e_h82
  exact qsome_f (Q := fun z => qfr wf_X4_readRoad_b49 h ((fun z : Int32 × qa_M => z.2) z)) E e_h93
def w_X4_readRoad : List (Nat × Nat) := [(1, 3), (1, 4), (1, 5), (1, 6), (1, 7), (1, 8), (14, 4), (18, 0), (20, 3), (20, 4), (20, 5), (20, 6)]
theorem fr_X4_readRoad (h : qa_M) {z : (Int32 × qa_M)} (E : m_X4_readRoad h = some z) : qfr w_X4_readRoad h ((fun z : Int32 × qa_M => z.2) z) := by
  unfold m_X4_readRoad at E
  have e_h : qfr w_X4_readRoad h h := qfr_rf
  obtain ⟨v7, -, E⟩ := qbd_el E
  obtain ⟨c9, h9, E0, E⟩ := qbn_el E
  have e_h9 := qfr_tr e_h (qfr_sub (qsub_c (List.mem_of_getElem? (i := 0) rfl) (qsub_c (List.mem_of_getElem? (i := 1) rfl) (qsub_c (List.mem_of_getElem? (i := 2) rfl) (qsub_c (List.mem_of_getElem? (i := 3) rfl) (qsub_c (List.mem_of_getElem? (i := 4) rfl) (qsub_c (List.mem_of_getElem? (i := 5) rfl) (qsub_c (List.mem_of_getElem? (i := 8) rfl) (qsub_c (List.mem_of_getElem? (i := 9) rfl) (qsub_c (List.mem_of_getElem? (i := 10) rfl) (qsub_c (List.mem_of_getElem? (i := 11) rfl) qsub_nil)))))))))) (fr_X4_readBox h E0))
  rcases qif_el E with E | E
  · exact qsome_f (Q := fun z => qfr w_X4_readRoad h ((fun z : Int32 × qa_M => z.2) z)) E e_h9
  · rcases qif_el E with E | E
    · exact qfr_tr e_h9 (qfr_sub (qsub_c (List.mem_of_getElem? (i := 6) rfl) (qsub_c (List.mem_of_getElem? (i := 7) rfl) qsub_nil)) (fr_X4_readRoad_b49 h9 E))
    · rcases qif_el E with E | E
      · exact qfr_tr e_h9 (qfr_sub (qsub_c (List.mem_of_getElem? (i := 6) rfl) (qsub_c (List.mem_of_getElem? (i := 7) rfl) qsub_nil)) (fr_X4_readRoad_b49 h9 E))
      · obtain ⟨c45, h45, E0, E⟩ := qbn_el E
        have e_h45 := qfr_tr e_h9 (qfr_sub (qsub_c (List.mem_of_getElem? (i := 5) rfl) qsub_nil) (fr_X9_failAt v7 (5 : Int32) h9 E0))
        obtain ⟨-, E⟩ := qpr_el E
        exact qsome_f (Q := fun z => qfr w_X4_readRoad h ((fun z : Int32 × qa_M => z.2) z)) E e_h45
def w_X4_readSort : List (Nat × Nat) := [(1, 3), (1, 4), (1, 5), (1, 6), (1, 7), (1, 8), (14, 5), (14, 6), (19, 0)]
theorem fr_X4_readSort (h : qa_M) {z : (Int32 × qa_M)} (E : m_X4_readSort h = some z) : qfr w_X4_readSort h ((fun z : Int32 × qa_M => z.2) z) := by
  unfold m_X4_readSort at E
  have e_h : qfr w_X4_readSort h h := qfr_rf
  obtain ⟨v7, -, E⟩ := qbd_el E
  obtain ⟨c14, h14, E0, E⟩ := qbn_el E
  have e_h14 := qfr_tr e_h (qfr_sub (qsub_c (List.mem_of_getElem? (i := 0) rfl) (qsub_c (List.mem_of_getElem? (i := 1) rfl) (qsub_c (List.mem_of_getElem? (i := 2) rfl) (qsub_c (List.mem_of_getElem? (i := 3) rfl) (qsub_c (List.mem_of_getElem? (i := 4) rfl) (qsub_c (List.mem_of_getElem? (i := 5) rfl) qsub_nil)))))) (fr_X9_takeNumber (0 : Int32) (4 : Int32) h E0))
  rcases qif_el E with E | E
  · exact qsome_f (Q := fun z => qfr w_X4_readSort h ((fun z : Int32 × qa_M => z.2) z)) E e_h14
  · rcases qif_el E with E | E
    · obtain ⟨-, E⟩ := qck_el E
      obtain ⟨h72, q_h72, E⟩ := qbd_el E
      have e_h72 := qfr_I0 q_h72 (List.mem_of_getElem? (i := 8) rfl) e_h14
      obtain ⟨h83, q_h83, E⟩ := qbd_el E
      have e_h83 := qfr_Ik q_h83 (List.mem_of_getElem? (i := 6) rfl) e_h72
      obtain ⟨h102, q_h102, E⟩ := qbd_el E
      have e_h102 := qfr_Ik q_h102 (List.mem_of_getElem? (i := 7) rfl) e_h83
      exact qsome_f (Q := fun z => qfr w_X4_readSort h ((fun z : Int32 × qa_M => z.2) z)) E e_h102
    · obtain ⟨c47, h47, E0, E⟩ := qbn_el E
      have e_h47 := qfr_tr e_h14 (qfr_sub (qsub_c (List.mem_of_getElem? (i := 5) rfl) qsub_nil) (fr_X9_failAt v7 (5 : Int32) h14 E0))
      obtain ⟨-, E⟩ := qpr_el E
      exact qsome_f (Q := fun z => qfr w_X4_readSort h ((fun z : Int32 × qa_M => z.2) z)) E e_h47
def wf_X4_readClause_b68 : List (Nat × Nat) := [(1, 8)]
theorem fr_X4_readClause_b68 (h : qa_M) {z : (Int32 × qa_M)} (E : f_X4_readClause_b68 h = some z) : qfr wf_X4_readClause_b68 h ((fun z : Int32 × qa_M => z.2) z) := by
  unfold f_X4_readClause_b68 at E
  have e_h : qfr wf_X4_readClause_b68 h h := qfr_rf
  obtain ⟨c73, h73, E0, E⟩ := qbn_el E
  have e_h73 := qfr_tr e_h (qfr_sub (qsub_c (List.mem_of_getElem? (i := 0) rfl) qsub_nil) (fr_X9_fail (4 : Int32) h E0))
  obtain ⟨-, E⟩ := qpr_el E
  exact qsome_f (Q := fun z => qfr wf_X4_readClause_b68 h ((fun z : Int32 × qa_M => z.2) z)) E e_h73
def wf_X4_readClause_b49 : List (Nat × Nat) := [(1, 3), (1, 4), (1, 5), (1, 6), (1, 7), (1, 8), (14, 1), (14, 2), (14, 3), (14, 4), (14, 5), (14, 6), (14, 8), (15, 0), (16, 0), (18, 0), (19, 0), (20, 3), (20, 4), (20, 5), (20, 6)]
theorem fr_X4_readClause_b49 (x1 : Int32) (x2 : Int32) (s0 : Int32) (h : qa_M) {z : (Int32 × qa_M)} (E : f_X4_readClause_b49 x1 x2 s0 h = some z) : qfr wf_X4_readClause_b49 h ((fun z : Int32 × qa_M => z.2) z) := by
  unfold f_X4_readClause_b49 at E
  have e_h : qfr wf_X4_readClause_b49 h h := qfr_rf
  obtain ⟨v49, -, E⟩ := qbd_el E
  rcases qif_el E with E | E
  · exact qfr_tr e_h (qfr_sub (qsub_c (List.mem_of_getElem? (i := 5) rfl) qsub_nil) (fr_X4_readClause_b68 h E))
  · rcases qif_el E with E | E
    · obtain ⟨c62, h62, E0, E⟩ := qbn_el E
      have e_h62 := qfr_tr e_h (qfr_sub qsub_nil (fr_X4_isFull x2 h E0))
      rcases qif_el E with E | E
      · obtain ⟨h81, E0, E⟩ := qbv_el E
        have e_h81 := qfr_tr e_h62 (qfr_sub (qsub_c (List.mem_of_getElem? (i := 0) rfl) (qsub_c (List.mem_of_getElem? (i := 1) rfl) (qsub_c (List.mem_of_getElem? (i := 2) rfl) (qsub_c (List.mem_of_getElem? (i := 3) rfl) qsub_nil)))) (fr_X9_scan h62 E0))
        rcases qif_el E with E | E
        · obtain ⟨c117, h117, E0, E⟩ := qbn_el E
          have e_h117 := qfr_tr e_h81 (qfr_sub (qsub_c (List.mem_of_getElem? (i := 0) rfl) (qsub_c (List.mem_of_getElem? (i := 1) rfl) (qsub_c (List.mem_of_getElem? (i := 2) rfl) (qsub_c (List.mem_of_getElem? (i := 3) rfl) (qsub_c (List.mem_of_getElem? (i := 4) rfl) (qsub_c (List.mem_of_getElem? (i := 5) rfl) (qsub_c (List.mem_of_getElem? (i := 6) rfl) (qsub_c (List.mem_of_getElem? (i := 7) rfl) qsub_nil)))))))) (fr_X4_readWide h81 E0))
          obtain ⟨-, E⟩ := qpr_el E
          exact qsome_f (Q := fun z => qfr wf_X4_readClause_b49 h ((fun z : Int32 × qa_M => z.2) z)) E e_h117
        · rcases qif_el E with E | E
          · obtain ⟨c122, h122, E0, E⟩ := qbn_el E
            have e_h122 := qfr_tr e_h81 (qfr_sub (qsub_c (List.mem_of_getElem? (i := 0) rfl) (qsub_c (List.mem_of_getElem? (i := 1) rfl) (qsub_c (List.mem_of_getElem? (i := 2) rfl) (qsub_c (List.mem_of_getElem? (i := 3) rfl) (qsub_c (List.mem_of_getElem? (i := 4) rfl) (qsub_c (List.mem_of_getElem? (i := 5) rfl) (qsub_c (List.mem_of_getElem? (i := 12) rfl) (qsub_c (List.mem_of_getElem? (i := 17) rfl) (qsub_c (List.mem_of_getElem? (i := 18) rfl) (qsub_c (List.mem_of_getElem? (i := 19) rfl) (qsub_c (List.mem_of_getElem? (i := 20) rfl) qsub_nil))))))))))) (fr_X4_readWood h81 E0))
            obtain ⟨-, E⟩ := qpr_el E
            exact qsome_f (Q := fun z => qfr wf_X4_readClause_b49 h ((fun z : Int32 × qa_M => z.2) z)) E e_h122
          · rcases qif_el E with E | E
            · obtain ⟨c127, h127, E0, E⟩ := qbn_el E
              have e_h127 := qfr_tr e_h81 (qfr_sub (qsub_c (List.mem_of_getElem? (i := 0) rfl) (qsub_c (List.mem_of_getElem? (i := 1) rfl) (qsub_c (List.mem_of_getElem? (i := 2) rfl) (qsub_c (List.mem_of_getElem? (i := 3) rfl) (qsub_c (List.mem_of_getElem? (i := 4) rfl) (qsub_c (List.mem_of_getElem? (i := 5) rfl) (qsub_c (List.mem_of_getElem? (i := 8) rfl) (qsub_c (List.mem_of_getElem? (i := 13) rfl) (qsub_c (List.mem_of_getElem? (i := 14) rfl) (qsub_c (List.mem_of_getElem? (i := 17) rfl) (qsub_c (List.mem_of_getElem? (i := 18) rfl) qsub_nil))))))))))) (fr_X4_readHill h81 E0))
              obtain ⟨-, E⟩ := qpr_el E
              exact qsome_f (Q := fun z => qfr wf_X4_readClause_b49 h ((fun z : Int32 × qa_M => z.2) z)) E e_h127
            · rcases qif_el E with E | E
              · obtain ⟨c132, h132, E0, E⟩ := qbn_el E
                have e_h132 := qfr_tr e_h81 (qfr_sub (qsub_c (List.mem_of_getElem? (i := 0) rfl) (qsub_c (List.mem_of_getElem? (i := 1) rfl) (qsub_c (List.mem_of_getElem? (i := 2) rfl) (qsub_c (List.mem_of_getElem? (i := 3) rfl) (qsub_c (List.mem_of_getElem? (i := 4) rfl) (qsub_c (List.mem_of_getElem? (i := 5) rfl) (qsub_c (List.mem_of_getElem? (i := 9) rfl) (qsub_c (List.mem_of_getElem? (i := 15) rfl) (qsub_c (List.mem_of_getElem? (i := 17) rfl) (qsub_c (List.mem_of_getElem? (i := 18) rfl) (qsub_c (List.mem_of_getElem? (i := 19) rfl) (qsub_c (List.mem_of_getElem? (i := 20) rfl) qsub_nil)))))))))))) (fr_X4_readRoad h81 E0))
                obtain ⟨-, E⟩ := qpr_el E
                exact qsome_f (Q := fun z => qfr wf_X4_readClause_b49 h ((fun z : Int32 × qa_M => z.2) z)) E e_h132
              · obtain ⟨c137, h137, E0, E⟩ := qbn_el E
                have e_h137 := qfr_tr e_h81 (qfr_sub (qsub_c (List.mem_of_getElem? (i := 0) rfl) (qsub_c (List.mem_of_getElem? (i := 1) rfl) (qsub_c (List.mem_of_getElem? (i := 2) rfl) (qsub_c (List.mem_of_getElem? (i := 3) rfl) (qsub_c (List.mem_of_getElem? (i := 4) rfl) (qsub_c (List.mem_of_getElem? (i := 5) rfl) (qsub_c (List.mem_of_getElem? (i := 10) rfl) (qsub_c (List.mem_of_getElem? (i := 11) rfl) (qsub_c (List.mem_of_getElem? (i := 16) rfl) qsub_nil))))))))) (fr_X4_readSort h81 E0))
                obtain ⟨-, E⟩ := qpr_el E
                exact qsome_f (Q := fun z => qfr wf_X4_readClause_b49 h ((fun z : Int32 × qa_M => z.2) z)) E e_h137
      · exact qfr_tr e_h62 (qfr_sub (qsub_c (List.mem_of_getElem? (i := 5) rfl) qsub_nil) (fr_X4_readClause_b68 h62 E))
    · exact qfr_tr e_h (qfr_sub (qsub_c (List.mem_of_getElem? (i := 5) rfl) qsub_nil) (fr_X4_readClause_b68 h E))
def w_X4_readClause : List (Nat × Nat) := [(1, 3), (1, 4), (1, 5), (1, 6), (1, 7), (1, 8), (14, 1), (14, 2), (14, 3), (14, 4), (14, 5), (14, 6), (14, 8), (15, 0), (16, 0), (18, 0), (19, 0), (20, 3), (20, 4), (20, 5), (20, 6)]
theorem fr_X4_readClause (x1 : Int32) (h : qa_M) {z : (Int32 × qa_M)} (E : m_X4_readClause x1 h = some z) : qfr w_X4_readClause h ((fun z : Int32 × qa_M => z.2) z) := by
  unfold m_X4_readClause at E
  have e_h : qfr w_X4_readClause h h := qfr_rf
  obtain ⟨c6, h6, E0, E⟩ := qbn_el E
  have e_h6 := qfr_tr e_h (qfr_sub qsub_nil (fr_X9_among 0 h E0))
  obtain ⟨v9, -, E⟩ := qbd_el E
  rcases qif_el E with E | E
  · obtain ⟨c20, h20, E0, E⟩ := qbn_el E
    have e_h20 := qfr_tr e_h6 (qfr_sub (qsub_c (List.mem_of_getElem? (i := 5) rfl) qsub_nil) (fr_X9_fail (0 : Int32) h6 E0))
    obtain ⟨-, E⟩ := qpr_el E
    exact qsome_f (Q := fun z => qfr w_X4_readClause h ((fun z : Int32 × qa_M => z.2) z)) E e_h20
  · rcases qif_el E with E | E
    · rcases qif_el E with E | E
      · exact qfr_tr e_h6 (qfr_sub (qsub_c (List.mem_of_getElem? (i := 0) rfl) (qsub_c (List.mem_of_getElem? (i := 1) rfl) (qsub_c (List.mem_of_getElem? (i := 2) rfl) (qsub_c (List.mem_of_getElem? (i := 3) rfl) (qsub_c (List.mem_of_getElem? (i := 4) rfl) (qsub_c (List.mem_of_getElem? (i := 5) rfl) (qsub_c (List.mem_of_getElem? (i := 6) rfl) (qsub_c (List.mem_of_getElem? (i := 7) rfl) (qsub_c (List.mem_of_getElem? (i := 8) rfl) (qsub_c (List.mem_of_getElem? (i := 9) rfl) (qsub_c (List.mem_of_getElem? (i := 10) rfl) (qsub_c (List.mem_of_getElem? (i := 11) rfl) (qsub_c (List.mem_of_getElem? (i := 12) rfl) (qsub_c (List.mem_of_getElem? (i := 13) rfl) (qsub_c (List.mem_of_getElem? (i := 14) rfl) (qsub_c (List.mem_of_getElem? (i := 15) rfl) (qsub_c (List.mem_of_getElem? (i := 16) rfl) (qsub_c (List.mem_of_getElem? (i := 17) rfl) (qsub_c (List.mem_of_getElem? (i := 18) rfl) (qsub_c (List.mem_of_getElem? (i := 19) rfl) (qsub_c (List.mem_of_getElem? (i := 20) rfl) qsub_nil))))))))))))))))))))) (fr_X4_readClause_b49 x1 v9 (0 : Int32) h6 E))
      · exact qfr_tr e_h6 (qfr_sub (qsub_c (List.mem_of_getElem? (i := 0) rfl) (qsub_c (List.mem_of_getElem? (i := 1) rfl) (qsub_c (List.mem_of_getElem? (i := 2) rfl) (qsub_c (List.mem_of_getElem? (i := 3) rfl) (qsub_c (List.mem_of_getElem? (i := 4) rfl) (qsub_c (List.mem_of_getElem? (i := 5) rfl) (qsub_c (List.mem_of_getElem? (i := 6) rfl) (qsub_c (List.mem_of_getElem? (i := 7) rfl) (qsub_c (List.mem_of_getElem? (i := 8) rfl) (qsub_c (List.mem_of_getElem? (i := 9) rfl) (qsub_c (List.mem_of_getElem? (i := 10) rfl) (qsub_c (List.mem_of_getElem? (i := 11) rfl) (qsub_c (List.mem_of_getElem? (i := 12) rfl) (qsub_c (List.mem_of_getElem? (i := 13) rfl) (qsub_c (List.mem_of_getElem? (i := 14) rfl) (qsub_c (List.mem_of_getElem? (i := 15) rfl) (qsub_c (List.mem_of_getElem? (i := 16) rfl) (qsub_c (List.mem_of_getElem? (i := 17) rfl) (qsub_c (List.mem_of_getElem? (i := 18) rfl) (qsub_c (List.mem_of_getElem? (i := 19) rfl) (qsub_c (List.mem_of_getElem? (i := 20) rfl) qsub_nil))))))))))))))))))))) (fr_X4_readClause_b49 x1 v9 (1 : Int32) h6 E))
    · rcases qif_el E with E | E
      · exact qfr_tr e_h6 (qfr_sub (qsub_c (List.mem_of_getElem? (i := 0) rfl) (qsub_c (List.mem_of_getElem? (i := 1) rfl) (qsub_c (List.mem_of_getElem? (i := 2) rfl) (qsub_c (List.mem_of_getElem? (i := 3) rfl) (qsub_c (List.mem_of_getElem? (i := 4) rfl) (qsub_c (List.mem_of_getElem? (i := 5) rfl) (qsub_c (List.mem_of_getElem? (i := 6) rfl) (qsub_c (List.mem_of_getElem? (i := 7) rfl) (qsub_c (List.mem_of_getElem? (i := 8) rfl) (qsub_c (List.mem_of_getElem? (i := 9) rfl) (qsub_c (List.mem_of_getElem? (i := 10) rfl) (qsub_c (List.mem_of_getElem? (i := 11) rfl) (qsub_c (List.mem_of_getElem? (i := 12) rfl) (qsub_c (List.mem_of_getElem? (i := 13) rfl) (qsub_c (List.mem_of_getElem? (i := 14) rfl) (qsub_c (List.mem_of_getElem? (i := 15) rfl) (qsub_c (List.mem_of_getElem? (i := 16) rfl) (qsub_c (List.mem_of_getElem? (i := 17) rfl) (qsub_c (List.mem_of_getElem? (i := 18) rfl) (qsub_c (List.mem_of_getElem? (i := 19) rfl) (qsub_c (List.mem_of_getElem? (i := 20) rfl) qsub_nil))))))))))))))))))))) (fr_X4_readClause_b49 x1 v9 (1 : Int32) h6 E))
      · exact qfr_tr e_h6 (qfr_sub (qsub_c (List.mem_of_getElem? (i := 0) rfl) (qsub_c (List.mem_of_getElem? (i := 1) rfl) (qsub_c (List.mem_of_getElem? (i := 2) rfl) (qsub_c (List.mem_of_getElem? (i := 3) rfl) (qsub_c (List.mem_of_getElem? (i := 4) rfl) (qsub_c (List.mem_of_getElem? (i := 5) rfl) (qsub_c (List.mem_of_getElem? (i := 6) rfl) (qsub_c (List.mem_of_getElem? (i := 7) rfl) (qsub_c (List.mem_of_getElem? (i := 8) rfl) (qsub_c (List.mem_of_getElem? (i := 9) rfl) (qsub_c (List.mem_of_getElem? (i := 10) rfl) (qsub_c (List.mem_of_getElem? (i := 11) rfl) (qsub_c (List.mem_of_getElem? (i := 12) rfl) (qsub_c (List.mem_of_getElem? (i := 13) rfl) (qsub_c (List.mem_of_getElem? (i := 14) rfl) (qsub_c (List.mem_of_getElem? (i := 15) rfl) (qsub_c (List.mem_of_getElem? (i := 16) rfl) (qsub_c (List.mem_of_getElem? (i := 17) rfl) (qsub_c (List.mem_of_getElem? (i := 18) rfl) (qsub_c (List.mem_of_getElem? (i := 19) rfl) (qsub_c (List.mem_of_getElem? (i := 20) rfl) qsub_nil))))))))))))))))))))) (fr_X4_readClause_b49 x1 v9 (0 : Int32) h6 E))
theorem fr_J9_floorDiv_7cf53 (x0 : Int32) (x1 : Int32) (h : qa_M) {z : (Int32 × qa_M)} (E : m_J9_floorDiv_7cf53 x0 x1 h = some z) : qfr wz h ((fun z : Int32 × qa_M => z.2) z) := by
  unfold m_J9_floorDiv_7cf53 at E
  have e_h : qfr wz h h := qfr_rf
  obtain ⟨-, E⟩ := qnz_el E
  obtain ⟨v3, -, E⟩ := qbd_el E
  rcases qif_el E with E | E
  · exact qsome_f (Q := fun z => qfr wz h ((fun z : Int32 × qa_M => z.2) z)) E e_h
  · rcases qif_el E with E | E
    · exact qsome_f (Q := fun z => qfr wz h ((fun z : Int32 × qa_M => z.2) z)) E e_h
    · exact qsome_f (Q := fun z => qfr wz h ((fun z : Int32 × qa_M => z.2) z)) E e_h
theorem fr_X3_isClear_b48 (a0 : Nat) (x1 : Int32) (x4 : Int32) (x5 : Int32) (x6 : Int32) (x7 : Int32) (h : qa_M) {z : ((Int32 × Int32 × Int32 × Int32 × Int32 × qa_M) ⊕ (Int32 × qa_M))} (E : f_X3_isClear_b48 a0 x1 x4 x5 x6 x7 h = some z) : qfr wz h ((Sum.elim (fun z : Int32 × Int32 × Int32 × Int32 × Int32 × qa_M => z.2.2.2.2.2) (fun z : Int32 × qa_M => z.2)) z) := by
  unfold f_X3_isClear_b48 at E
  have e_h : qfr wz h h := qfr_rf
  rcases qif_el E with E | E
  · refine qup_f (Q := fun z => qfr wz h ((Sum.elim (fun z : Int32 × Int32 × Int32 × Int32 × Int32 × qa_M => z.2.2.2.2.2) (fun z : Int32 × qa_M => z.2)) z)) E (fun rz E => ?_)
    exact qsome_f (Q := fun z => qfr wz h ((fun z : Int32 × qa_M => z.2) z)) E e_h
  · obtain ⟨c73, h73, E0, E⟩ := qbn_el E
    have e_h73 := qfr_tr e_h (qfr_sub qsub_nil (fr_J9_floorDiv_7cf53 ((((2 : Int32) * x7) * x4) + x6) ((2 : Int32) * x6) h E0))
    obtain ⟨v77, -, E⟩ := qbd_el E
    obtain ⟨c97, h97, E0, E⟩ := qbn_el E
    have e_h97 := qfr_tr e_h73 (qfr_sub qsub_nil (fr_J9_floorDiv_7cf53 ((((2 : Int32) * x7) * x5) + x6) ((2 : Int32) * x6) h73 E0))
    obtain ⟨v101, -, E⟩ := qbd_el E
    obtain ⟨c111, h111, E0, E⟩ := qbn_el E
    have e_h111 := qfr_tr e_h97 (qfr_sub qsub_nil (fr_X2_bit v77 v101 h97 E0))
    rcases qif_el E with E | E
    · obtain ⟨v122, -, E⟩ := qbd_el E
      exact qsome_f (Q := fun z => qfr wz h ((Sum.elim (fun z : Int32 × Int32 × Int32 × Int32 × Int32 × qa_M => z.2.2.2.2.2) (fun z : Int32 × qa_M => z.2)) z)) E e_h111
    · refine qup_f (Q := fun z => qfr wz h ((Sum.elim (fun z : Int32 × Int32 × Int32 × Int32 × Int32 × qa_M => z.2.2.2.2.2) (fun z : Int32 × qa_M => z.2)) z)) E (fun rz E => ?_)
      exact qsome_f (Q := fun z => qfr wz h ((fun z : Int32 × qa_M => z.2) z)) E e_h111
theorem fr_X3_isClear_b48_loop (a0 : Nat) (x1 : Int32) (x4 : Int32) (x5 : Int32) (x6 : Int32) (x7 : Int32) (h : qa_M) {z : (Int32 × qa_M)} (E : f_X3_isClear_b48_loop a0 x1 x4 x5 x6 x7 h = some z) : qfr wz h ((fun z : Int32 × qa_M => z.2) z) :=
  qlp_ind (fun sz : Int32 × Int32 × Int32 × Int32 × Int32 × qa_M => qfr wz (sz.2.2.2.2.2) ((fun z : Int32 × qa_M => z.2) z)) (fun sz E => fr_X3_isClear_b48 a0 sz.1 sz.2.1 sz.2.2.1 sz.2.2.2.1 sz.2.2.2.2.1 sz.2.2.2.2.2 E) (fun sz sz2 E ih => qfr_tr (fr_X3_isClear_b48 a0 sz.1 sz.2.1 sz.2.2.1 sz.2.2.2.1 sz.2.2.2.2.1 sz.2.2.2.2.2 E) ih) (x1, x4, x5, x6, x7, h) E
theorem fr_X3_isClear (a0 : Nat) (x1 : Int32) (x2 : Int32) (x3 : Int32) (h : qa_M) {z : (Int32 × qa_M)} (E : m_X3_isClear a0 x1 x2 x3 h = some z) : qfr wz h ((fun z : Int32 × qa_M => z.2) z) := by
  unfold m_X3_isClear at E
  have e_h : qfr wz h h := qfr_rf
  obtain ⟨v9, -, E⟩ := qbd_el E
  obtain ⟨v20, -, E⟩ := qbd_el E
  obtain ⟨v35, -, E⟩ := qbd_el E
  rcases qif_el E with E | E
  · obtain ⟨v46, -, E⟩ := qbd_el E
    exact qfr_tr e_h (qfr_sub qsub_nil (fr_X3_isClear_b48_loop a0 x1 v9 v20 v35 v46 h E))
  · exact qsome_f (Q := fun z => qfr wz h ((fun z : Int32 × qa_M => z.2) z)) E e_h
theorem fr_X3_view_b44 (a0 : Nat) (x1 : Int32) (x2 : Int32) (x3 : Int64) (x5 : Int32) (h : qa_M) {z : ((Int32 × Int32 × Int64 × Int32 × qa_M) ⊕ (Int64 × qa_M))} (E : f_X3_view_b44 a0 x1 x2 x3 x5 h = some z) : qfr wz h ((Sum.elim (fun z : Int32 × Int32 × Int64 × Int32 × qa_M => z.2.2.2.2) (fun z : Int64 × qa_M => z.2)) z) := by
  unfold f_X3_view_b44 at E
  have e_h : qfr wz h h := qfr_rf
  obtain ⟨v44, -, E⟩ := qbd_el E
  exact qsome_f (Q := fun z => qfr wz h ((Sum.elim (fun z : Int32 × Int32 × Int64 × Int32 × qa_M => z.2.2.2.2) (fun z : Int64 × qa_M => z.2)) z)) E e_h
theorem fr_X3_view_b5 (a0 : Nat) (x1 : Int32) (x2 : Int32) (x3 : Int64) (x5 : Int32) (h : qa_M) {z : ((Int32 × Int32 × Int64 × Int32 × qa_M) ⊕ (Int64 × qa_M))} (E : f_X3_view_b5 a0 x1 x2 x3 x5 h = some z) : qfr wz h ((Sum.elim (fun z : Int32 × Int32 × Int64 × Int32 × qa_M => z.2.2.2.2) (fun z : Int64 × qa_M => z.2)) z) := by
  unfold f_X3_view_b5 at E
  have e_h : qfr wz h h := qfr_rf
  rcases qif_el E with E | E
  · refine qup_f (Q := fun z => qfr wz h ((Sum.elim (fun z : Int32 × Int32 × Int64 × Int32 × qa_M => z.2.2.2.2) (fun z : Int64 × qa_M => z.2)) z)) E (fun rz E => ?_)
    exact qsome_f (Q := fun z => qfr wz h ((fun z : Int64 × qa_M => z.2) z)) E e_h
  · rcases qif_el E with E | E
    · exact qfr_tr e_h (qfr_sub qsub_nil (fr_X3_view_b44 a0 x1 x2 x3 x5 h E))
    · obtain ⟨c31, h31, E0, E⟩ := qbn_el E
      have e_h31 := qfr_tr e_h (qfr_sub qsub_nil (fr_X3_isClear a0 x1 x5 x2 h E0))
      rcases qif_el E with E | E
      · exact qfr_tr e_h31 (qfr_sub qsub_nil (fr_X3_view_b44 a0 x1 x2 x3 x5 h31 E))
      · obtain ⟨v43, -, E⟩ := qbd_el E
        exact qfr_tr e_h31 (qfr_sub qsub_nil (fr_X3_view_b44 a0 x1 x2 v43 x5 h31 E))
theorem fr_X3_view_b5_loop (a0 : Nat) (x1 : Int32) (x2 : Int32) (x3 : Int64) (x5 : Int32) (h : qa_M) {z : (Int64 × qa_M)} (E : f_X3_view_b5_loop a0 x1 x2 x3 x5 h = some z) : qfr wz h ((fun z : Int64 × qa_M => z.2) z) :=
  qlp_ind (fun sz : Int32 × Int32 × Int64 × Int32 × qa_M => qfr wz (sz.2.2.2.2) ((fun z : Int64 × qa_M => z.2) z)) (fun sz E => fr_X3_view_b5 a0 sz.1 sz.2.1 sz.2.2.1 sz.2.2.2.1 sz.2.2.2.2 E) (fun sz sz2 E ih => qfr_tr (fr_X3_view_b5 a0 sz.1 sz.2.1 sz.2.2.1 sz.2.2.2.1 sz.2.2.2.2 E) ih) (x1, x2, x3, x5, h) E
theorem fr_X3_view (a0 : Nat) (x1 : Int32) (x2 : Int32) (h : qa_M) {z : (Int64 × qa_M)} (E : m_X3_view a0 x1 x2 h = some z) : qfr wz h ((fun z : Int64 × qa_M => z.2) z) := by
  unfold m_X3_view at E
  have e_h : qfr wz h h := qfr_rf
  obtain ⟨v1, -, E⟩ := qbd_el E
  obtain ⟨v3, -, E⟩ := qbd_el E
  exact qfr_tr e_h (qfr_sub qsub_nil (fr_X3_view_b5_loop a0 x1 x2 v1 v3 h E))
def wf_X3_settle_b60 : List (Nat × Nat) := [(17, 0)]
theorem fr_X3_settle_b60 (x1 : Int32) (h : qa_M) {z : ((Int32 × qa_M) ⊕ qa_M)} (E : f_X3_settle_b60 x1 h = some z) : qfr wf_X3_settle_b60 h ((Sum.elim (fun z : Int32 × qa_M => z.2) (fun z : qa_M => z)) z) := by
  unfold f_X3_settle_b60 at E
  have e_h : qfr wf_X3_settle_b60 h h := qfr_rf
  rcases qif_el E with E | E
  · refine qup_f (Q := fun z => qfr wf_X3_settle_b60 h ((Sum.elim (fun z : Int32 × qa_M => z.2) (fun z : qa_M => z)) z)) E (fun rz E => ?_)
    exact qsome_f (Q := fun z => qfr wf_X3_settle_b60 h ((fun z : qa_M => z) z)) E e_h
  · obtain ⟨-, E⟩ := qck_el E
    obtain ⟨-, E⟩ := qck_el E
    obtain ⟨c86, h86, E0, E⟩ := qbn_el E
    have e_h86 := qfr_tr e_h (qfr_sub qsub_nil (fr_X3_view 14 (h.1 15 x1.toNatClampNeg) (h.1 16 x1.toNatClampNeg) h E0))
    obtain ⟨-, E⟩ := qck_el E
    obtain ⟨h89, q_h89, E⟩ := qbd_el E
    have e_h89 := qfr_J0 q_h89 (List.mem_of_getElem? (i := 0) rfl) e_h86
    obtain ⟨v90, -, E⟩ := qbd_el E
    exact qsome_f (Q := fun z => qfr wf_X3_settle_b60 h ((Sum.elim (fun z : Int32 × qa_M => z.2) (fun z : qa_M => z)) z)) E e_h89
theorem fr_X3_settle_b60_loop (x1 : Int32) (h : qa_M) {z : qa_M} (E : f_X3_settle_b60_loop x1 h = some z) : qfr wf_X3_settle_b60 h ((fun z : qa_M => z) z) :=
  qlp_ind (fun sz : Int32 × qa_M => qfr wf_X3_settle_b60 (sz.2) ((fun z : qa_M => z) z)) (fun sz E => fr_X3_settle_b60 sz.1 sz.2 E) (fun sz sz2 E ih => qfr_tr (fr_X3_settle_b60 sz.1 sz.2 E) ih) (x1, h) E
def wf_X3_settle_b58 : List (Nat × Nat) := [(17, 0)]
theorem fr_X3_settle_b58 (h : qa_M) {z : qa_M} (E : f_X3_settle_b58 h = some z) : qfr wf_X3_settle_b58 h ((fun z : qa_M => z) z) := by
  unfold f_X3_settle_b58 at E
  have e_h : qfr wf_X3_settle_b58 h h := qfr_rf
  obtain ⟨v59, -, E⟩ := qbd_el E
  exact qfr_tr e_h (qfr_sub (qsub_c (List.mem_of_getElem? (i := 0) rfl) qsub_nil) (fr_X3_settle_b60_loop v59 h E))
def wf_X3_settle_b23 : List (Nat × Nat) := [(14, 8), (17, 0)]
theorem fr_X3_settle_b23 (x1 : Int32) (h : qa_M) {z : ((Int32 × qa_M) ⊕ qa_M)} (E : f_X3_settle_b23 x1 h = some z) : qfr wf_X3_settle_b23 h ((Sum.elim (fun z : Int32 × qa_M => z.2) (fun z : qa_M => z)) z) := by
  unfold f_X3_settle_b23 at E
  have e_h : qfr wf_X3_settle_b23 h h := qfr_rf
  rcases qif_el E with E | E
  · refine qup_f (Q := fun z => qfr wf_X3_settle_b23 h ((Sum.elim (fun z : Int32 × qa_M => z.2) (fun z : qa_M => z)) z)) E (fun rz E => ?_)
    exact qfr_tr e_h (qfr_sub (qsub_c (List.mem_of_getElem? (i := 1) rfl) qsub_nil) (fr_X3_settle_b58 h E))
  · obtain ⟨-, E⟩ := qck_el E
    obtain ⟨h49, q_h49, E⟩ := qbd_el E
    have e_h49 := qfr_Jk q_h49 (List.mem_of_getElem? (i := 0) rfl) e_h
    obtain ⟨v52, -, E⟩ := qbd_el E
    exact qsome_f (Q := fun z => qfr wf_X3_settle_b23 h ((Sum.elim (fun z : Int32 × qa_M => z.2) (fun z : qa_M => z)) z)) E e_h49
theorem fr_X3_settle_b23_loop (x1 : Int32) (h : qa_M) {z : qa_M} (E : f_X3_settle_b23_loop x1 h = some z) : qfr wf_X3_settle_b23 h ((fun z : qa_M => z) z) :=
  qlp_ind (fun sz : Int32 × qa_M => qfr wf_X3_settle_b23 (sz.2) ((fun z : qa_M => z) z)) (fun sz E => fr_X3_settle_b23 sz.1 sz.2 E) (fun sz sz2 E ih => qfr_tr (fr_X3_settle_b23 sz.1 sz.2 E) ih) (x1, h) E
def w_X3_settle : List (Nat × Nat) := [(14, 7), (14, 8), (17, 0)]
theorem fr_X3_settle (h : qa_M) {z : qa_M} (E : m_X3_settle h = some z) : qfr w_X3_settle h ((fun z : qa_M => z) z) := by
  unfold m_X3_settle at E
  have e_h : qfr w_X3_settle h h := qfr_rf
  obtain ⟨c15, h15, E0, E⟩ := qbn_el E
  have e_h15 := qfr_tr e_h (qfr_sub qsub_nil (fr_X2_box (0 : Int32) (0 : Int32) ((h.1 14 0) - (1 : Int32)) ((h.1 14 1) - (1 : Int32)) h E0))
  obtain ⟨h18, q_h18, E⟩ := qbd_el E
  have e_h18 := qfr_Jk q_h18 (List.mem_of_getElem? (i := 0) rfl) e_h15
  obtain ⟨v22, -, E⟩ := qbd_el E
  exact qfr_tr e_h18 (qfr_sub (qsub_c (List.mem_of_getElem? (i := 1) rfl) (qsub_c (List.mem_of_getElem? (i := 2) rfl) qsub_nil)) (fr_X3_settle_b23_loop v22 h18 E))
theorem fr_X9_isSign (x1 : Int32) (h : qa_M) {z : (Int32 × qa_M)} (E : m_X9_isSign x1 h = some z) : qfr wz h ((fun z : Int32 × qa_M => z.2) z) := by
  unfold m_X9_isSign at E
  have e_h : qfr wz h h := qfr_rf
  rcases qif_el E with E | E
  · rcases qif_el E with E | E
    · exact qsome_f (Q := fun z => qfr wz h ((fun z : Int32 × qa_M => z.2) z)) E e_h
    · exact qsome_f (Q := fun z => qfr wz h ((fun z : Int32 × qa_M => z.2) z)) E e_h
  · exact qsome_f (Q := fun z => qfr wz h ((fun z : Int32 × qa_M => z.2) z)) E e_h
theorem fr_X4_read_b99 (h : qa_M) {z : (Int32 × qa_M)} (E : f_X4_read_b99 h = some z) : qfr wz h ((fun z : Int32 × qa_M => z.2) z) := by
  unfold f_X4_read_b99 at E
  have e_h : qfr wz h h := qfr_rf
  exact qsome_f (Q := fun z => qfr wz h ((fun z : Int32 × qa_M => z.2) z)) E e_h
def wf_X4_read_b69 : List (Nat × Nat) := [(1, 8)]
theorem fr_X4_read_b69 (h : qa_M) {z : (Int32 × qa_M)} (E : f_X4_read_b69 h = some z) : qfr wf_X4_read_b69 h ((fun z : Int32 × qa_M => z.2) z) := by
  unfold f_X4_read_b69 at E
  have e_h : qfr wf_X4_read_b69 h h := qfr_rf
  obtain ⟨c74, h74, E0, E⟩ := qbn_el E
  have e_h74 := qfr_tr e_h (qfr_sub (qsub_c (List.mem_of_getElem? (i := 0) rfl) qsub_nil) (fr_X9_fail (0 : Int32) h E0))
  exact qsome_f (Q := fun z => qfr wf_X4_read_b69 h ((fun z : Int32 × qa_M => z.2) z)) E e_h74
def wf_X4_read_b48 : List (Nat × Nat) := [(14, 7), (14, 8), (17, 0)]
theorem fr_X4_read_b48 (h : qa_M) {z : (Int32 × qa_M)} (E : f_X4_read_b48 h = some z) : qfr wf_X4_read_b48 h ((fun z : Int32 × qa_M => z.2) z) := by
  unfold f_X4_read_b48 at E
  have e_h : qfr wf_X4_read_b48 h h := qfr_rf
  obtain ⟨h52, E0, E⟩ := qbv_el E
  have e_h52 := qfr_tr e_h (qfr_sub (qsub_c (List.mem_of_getElem? (i := 0) rfl) (qsub_c (List.mem_of_getElem? (i := 1) rfl) (qsub_c (List.mem_of_getElem? (i := 2) rfl) qsub_nil))) (fr_X3_settle h E0))
  exact qsome_f (Q := fun z => qfr wf_X4_read_b48 h ((fun z : Int32 × qa_M => z.2) z)) E e_h52
theorem fr_X4_read_b30 (h : qa_M) {z : (Int32 × qa_M)} (E : f_X4_read_b30 h = some z) : qfr wz h ((fun z : Int32 × qa_M => z.2) z) := by
  unfold f_X4_read_b30 at E
  have e_h : qfr wz h h := qfr_rf
  exact qsome_f (Q := fun z => qfr wz h ((fun z : Int32 × qa_M => z.2) z)) E e_h
def wf_X4_read_b16 : List (Nat × Nat) := [(1, 3), (1, 4), (1, 5), (1, 6), (1, 7), (1, 8), (14, 1), (14, 2), (14, 3), (14, 4), (14, 5), (14, 6), (14, 7), (14, 8), (15, 0), (16, 0), (17, 0), (18, 0), (19, 0), (20, 3), (20, 4), (20, 5), (20, 6)]
theorem fr_X4_read_b16 (x1 : Int32) (h : qa_M) {z : ((Int32 × qa_M) ⊕ (Int32 × qa_M))} (E : f_X4_read_b16 x1 h = some z) : qfr wf_X4_read_b16 h ((Sum.elim (fun z : Int32 × qa_M => z.2) (fun z : Int32 × qa_M => z.2)) z) := by
  unfold f_X4_read_b16 at E
  have e_h : qfr wf_X4_read_b16 h h := qfr_rf
  rcases qif_el E with E | E
  · refine qup_f (Q := fun z => qfr wf_X4_read_b16 h ((Sum.elim (fun z : Int32 × qa_M => z.2) (fun z : Int32 × qa_M => z.2)) z)) E (fun rz E => ?_)
    exact qfr_tr e_h (qfr_sub qsub_nil (fr_X4_read_b99 h E))
  · obtain ⟨c24, h24, E0, E⟩ := qbn_el E
    have e_h24 := qfr_tr e_h (qfr_sub (qsub_c (List.mem_of_getElem? (i := 0) rfl) (qsub_c (List.mem_of_getElem? (i := 1) rfl) (qsub_c (List.mem_of_getElem? (i := 2) rfl) (qsub_c (List.mem_of_getElem? (i := 3) rfl) (qsub_c (List.mem_of_getElem? (i := 4) rfl) (qsub_c (List.mem_of_getElem? (i := 5) rfl) (qsub_c (List.mem_of_getElem? (i := 6) rfl) (qsub_c (List.mem_of_getElem? (i := 7) rfl) (qsub_c (List.mem_of_getElem? (i := 8) rfl) (qsub_c (List.mem_of_getElem? (i := 9) rfl) (qsub_c (List.mem_of_getElem? (i := 10) rfl) (qsub_c (List.mem_of_getElem? (i := 11) rfl) (qsub_c (List.mem_of_getElem? (i := 13) rfl) (qsub_c (List.mem_of_getElem? (i := 14) rfl) (qsub_c (List.mem_of_getElem? (i := 15) rfl) (qsub_c (List.mem_of_getElem? (i := 17) rfl) (qsub_c (List.mem_of_getElem? (i := 18) rfl) (qsub_c (List.mem_of_getElem? (i := 19) rfl) (qsub_c (List.mem_of_getElem? (i := 20) rfl) (qsub_c (List.mem_of_getElem? (i := 21) rfl) (qsub_c (List.mem_of_getElem? (i := 22) rfl) qsub_nil))))))))))))))))))))) (fr_X4_readClause x1 h E0))
    rcases qif_el E with E | E
    · refine qup_f (Q := fun z => qfr wf_X4_read_b16 h ((Sum.elim (fun z : Int32 × qa_M => z.2) (fun z : Int32 × qa_M => z.2)) z)) E (fun rz E => ?_)
      exact qfr_tr e_h24 (qfr_sub qsub_nil (fr_X4_read_b30 h24 E))
    · rcases qif_el E with E | E
      · refine qup_f (Q := fun z => qfr wf_X4_read_b16 h ((Sum.elim (fun z : Int32 × qa_M => z.2) (fun z : Int32 × qa_M => z.2)) z)) E (fun rz E => ?_)
        exact qfr_tr e_h24 (qfr_sub (qsub_c (List.mem_of_getElem? (i := 12) rfl) (qsub_c (List.mem_of_getElem? (i := 13) rfl) (qsub_c (List.mem_of_getElem? (i := 16) rfl) qsub_nil))) (fr_X4_read_b48 h24 E))
      · obtain ⟨c63, h63, E0, E⟩ := qbn_el E
        have e_h63 := qfr_tr e_h24 (qfr_sub qsub_nil (fr_X9_isSign (59 : Int32) h24 E0))
        rcases qif_el E with E | E
        · refine qup_f (Q := fun z => qfr wf_X4_read_b16 h ((Sum.elim (fun z : Int32 × qa_M => z.2) (fun z : Int32 × qa_M => z.2)) z)) E (fun rz E => ?_)
          exact qfr_tr e_h63 (qfr_sub (qsub_c (List.mem_of_getElem? (i := 5) rfl) qsub_nil) (fr_X4_read_b69 h63 E))
        · obtain ⟨h90, E0, E⟩ := qbv_el E
          have e_h90 := qfr_tr e_h63 (qfr_sub (qsub_c (List.mem_of_getElem? (i := 0) rfl) (qsub_c (List.mem_of_getElem? (i := 1) rfl) (qsub_c (List.mem_of_getElem? (i := 2) rfl) (qsub_c (List.mem_of_getElem? (i := 3) rfl) qsub_nil)))) (fr_X9_scan h63 E0))
          obtain ⟨v93, -, E⟩ := qbd_el E
          exact qsome_f (Q := fun z => qfr wf_X4_read_b16 h ((Sum.elim (fun z : Int32 × qa_M => z.2) (fun z : Int32 × qa_M => z.2)) z)) E e_h90
theorem fr_X4_read_b16_loop (x1 : Int32) (h : qa_M) {z : (Int32 × qa_M)} (E : f_X4_read_b16_loop x1 h = some z) : qfr wf_X4_read_b16 h ((fun z : Int32 × qa_M => z.2) z) :=
  qlp_ind (fun sz : Int32 × qa_M => qfr wf_X4_read_b16 (sz.2) ((fun z : Int32 × qa_M => z.2) z)) (fun sz E => fr_X4_read_b16 sz.1 sz.2 E) (fun sz sz2 E ih => qfr_tr (fr_X4_read_b16 sz.1 sz.2 E) ih) (x1, h) E
def w_X4_read : List (Nat × Nat) := [(1, 3), (1, 4), (1, 5), (1, 6), (1, 7), (1, 8), (14, 1), (14, 2), (14, 3), (14, 4), (14, 5), (14, 6), (14, 7), (14, 8), (15, 0), (16, 0), (17, 0), (18, 0), (19, 0), (20, 3), (20, 4), (20, 5), (20, 6)]
theorem fr_X4_read (h : qa_M) {z : (Int32 × qa_M)} (E : m_X4_read h = some z) : qfr w_X4_read h ((fun z : Int32 × qa_M => z.2) z) := by
  unfold m_X4_read at E
  have e_h : qfr w_X4_read h h := qfr_rf
  obtain ⟨h4, E0, E⟩ := qbv_el E
  have e_h4 := qfr_tr e_h (qfr_sub (qsub_c (List.mem_of_getElem? (i := 6) rfl) (qsub_c (List.mem_of_getElem? (i := 7) rfl) (qsub_c (List.mem_of_getElem? (i := 8) rfl) (qsub_c (List.mem_of_getElem? (i := 9) rfl) (qsub_c (List.mem_of_getElem? (i := 10) rfl) (qsub_c (List.mem_of_getElem? (i := 11) rfl) (qsub_c (List.mem_of_getElem? (i := 12) rfl) (qsub_c (List.mem_of_getElem? (i := 13) rfl) qsub_nil)))))))) (fr_X3_clear h E0))
  obtain ⟨h11, E0, E⟩ := qbv_el E
  have e_h11 := qfr_tr e_h4 (qfr_sub (qsub_c (List.mem_of_getElem? (i := 0) rfl) (qsub_c (List.mem_of_getElem? (i := 1) rfl) (qsub_c (List.mem_of_getElem? (i := 2) rfl) (qsub_c (List.mem_of_getElem? (i := 3) rfl) (qsub_c (List.mem_of_getElem? (i := 5) rfl) qsub_nil))))) (fr_X9_begin h4 E0))
  obtain ⟨v15, -, E⟩ := qbd_el E
  exact qfr_tr e_h11 (qfr_sub (qsub_c (List.mem_of_getElem? (i := 0) rfl) (qsub_c (List.mem_of_getElem? (i := 1) rfl) (qsub_c (List.mem_of_getElem? (i := 2) rfl) (qsub_c (List.mem_of_getElem? (i := 3) rfl) (qsub_c (List.mem_of_getElem? (i := 4) rfl) (qsub_c (List.mem_of_getElem? (i := 5) rfl) (qsub_c (List.mem_of_getElem? (i := 6) rfl) (qsub_c (List.mem_of_getElem? (i := 7) rfl) (qsub_c (List.mem_of_getElem? (i := 8) rfl) (qsub_c (List.mem_of_getElem? (i := 9) rfl) (qsub_c (List.mem_of_getElem? (i := 10) rfl) (qsub_c (List.mem_of_getElem? (i := 11) rfl) (qsub_c (List.mem_of_getElem? (i := 12) rfl) (qsub_c (List.mem_of_getElem? (i := 13) rfl) (qsub_c (List.mem_of_getElem? (i := 14) rfl) (qsub_c (List.mem_of_getElem? (i := 15) rfl) (qsub_c (List.mem_of_getElem? (i := 16) rfl) (qsub_c (List.mem_of_getElem? (i := 17) rfl) (qsub_c (List.mem_of_getElem? (i := 18) rfl) (qsub_c (List.mem_of_getElem? (i := 19) rfl) (qsub_c (List.mem_of_getElem? (i := 20) rfl) (qsub_c (List.mem_of_getElem? (i := 21) rfl) (qsub_c (List.mem_of_getElem? (i := 22) rfl) qsub_nil))))))))))))))))))))))) (fr_X4_read_b16_loop v15 h11 E))
def w_X3_copy (a0 : Nat) : List (Nat × Nat) := [((a0 + 1), 0), ((a0 + 2), 0), ((a0 + 3), 0), ((a0 + 4), 0), ((a0 + 5), 0), (a0, 1), (a0, 2), (a0, 3), (a0, 4), (a0, 5), (a0, 6), (a0, 7), (a0, 8)]
theorem fr_X3_copy (a0 : Nat) (a1 : Nat) (h : qa_M) {z : qa_M} (E : m_X3_copy a0 a1 h = some z) : qfr (w_X3_copy a0) h ((fun z : qa_M => z) z) := by
  unfold m_X3_copy at E
  have e_h : qfr (w_X3_copy a0) h h := qfr_rf
  obtain ⟨h5, q_h5, E⟩ := qbd_el E
  have e_h5 := qfr_Ik q_h5 (List.mem_of_getElem? (i := 5) rfl) e_h
  obtain ⟨h13, q_h13, E⟩ := qbd_el E
  have e_h13 := qfr_Ik q_h13 (List.mem_of_getElem? (i := 6) rfl) e_h5
  obtain ⟨h21, q_h21, E⟩ := qbd_el E
  have e_h21 := qfr_Ik q_h21 (List.mem_of_getElem? (i := 7) rfl) e_h13
  obtain ⟨h29, q_h29, E⟩ := qbd_el E
  have e_h29 := qfr_Ik q_h29 (List.mem_of_getElem? (i := 8) rfl) e_h21
  obtain ⟨h37, q_h37, E⟩ := qbd_el E
  have e_h37 := qfr_Ik q_h37 (List.mem_of_getElem? (i := 9) rfl) e_h29
  obtain ⟨h45, q_h45, E⟩ := qbd_el E
  have e_h45 := qfr_Ik q_h45 (List.mem_of_getElem? (i := 10) rfl) e_h37
  obtain ⟨h53, q_h53, E⟩ := qbd_el E
  have e_h53 := qfr_Jk q_h53 (List.mem_of_getElem? (i := 11) rfl) e_h45
  obtain ⟨h61, q_h61, E⟩ := qbd_el E
  have e_h61 := qfr_Jk q_h61 (List.mem_of_getElem? (i := 12) rfl) e_h53
  obtain ⟨h76, q_h76, E⟩ := qbd_el E
  have e_h76 := qfr_cI q_h76 (List.mem_of_getElem? (i := 0) rfl) e_h61
  obtain ⟨h91, q_h91, E⟩ := qbd_el E
  have e_h91 := qfr_cI q_h91 (List.mem_of_getElem? (i := 1) rfl) e_h76
  obtain ⟨h106, q_h106, E⟩ := qbd_el E
  have e_h106 := qfr_cJ q_h106 (List.mem_of_getElem? (i := 2) rfl) e_h91
  obtain ⟨h121, q_h121, E⟩ := qbd_el E
  have e_h121 := qfr_cJ q_h121 (List.mem_of_getElem? (i := 3) rfl) e_h106
  obtain ⟨h135, q_h135, E⟩ := qbd_el E
  have e_h135 := qfr_cI q_h135 (List.mem_of_getElem? (i := 4) rfl) e_h121
  exact qsome_f (Q := fun z => qfr (w_X3_copy a0) h ((fun z : qa_M => z) z)) E e_h135
def w_X11_land : List (Nat × Nat) := [(0, 14), (1, 2), (1, 3), (1, 4), (1, 5), (1, 6), (1, 7), (1, 8), (3, 2), (4, 1), (4, 2), (4, 3), (4, 4), (4, 5), (4, 6), (4, 7), (4, 8), (5, 0), (6, 0), (7, 0), (8, 0), (9, 0), (14, 1), (14, 2), (14, 3), (14, 4), (14, 5), (14, 6), (14, 7), (14, 8), (15, 0), (16, 0), (17, 0), (18, 0), (19, 0), (20, 3), (20, 4), (20, 5), (20, 6)]
theorem fr_X11_land (h : qa_M) {z : (Int32 × qa_M)} (E : m_X11_land h = some z) : qfr w_X11_land h ((fun z : Int32 × qa_M => z.2) z) := by
  unfold m_X11_land at E
  have e_h : qfr w_X11_land h h := qfr_rf
  obtain ⟨c4, h4, E0, E⟩ := qbn_el E
  have e_h4 := qfr_tr e_h (qfr_sub (qsub_c (List.mem_of_getElem? (i := 2) rfl) (qsub_c (List.mem_of_getElem? (i := 3) rfl) (qsub_c (List.mem_of_getElem? (i := 4) rfl) (qsub_c (List.mem_of_getElem? (i := 5) rfl) (qsub_c (List.mem_of_getElem? (i := 6) rfl) (qsub_c (List.mem_of_getElem? (i := 7) rfl) (qsub_c (List.mem_of_getElem? (i := 22) rfl) (qsub_c (List.mem_of_getElem? (i := 23) rfl) (qsub_c (List.mem_of_getElem? (i := 24) rfl) (qsub_c (List.mem_of_getElem? (i := 25) rfl) (qsub_c (List.mem_of_getElem? (i := 26) rfl) (qsub_c (List.mem_of_getElem? (i := 27) rfl) (qsub_c (List.mem_of_getElem? (i := 28) rfl) (qsub_c (List.mem_of_getElem? (i := 29) rfl) (qsub_c (List.mem_of_getElem? (i := 30) rfl) (qsub_c (List.mem_of_getElem? (i := 31) rfl) (qsub_c (List.mem_of_getElem? (i := 32) rfl) (qsub_c (List.mem_of_getElem? (i := 33) rfl) (qsub_c (List.mem_of_getElem? (i := 34) rfl) (qsub_c (List.mem_of_getElem? (i := 35) rfl) (qsub_c (List.mem_of_getElem? (i := 36) rfl) (qsub_c (List.mem_of_getElem? (i := 37) rfl) (qsub_c (List.mem_of_getElem? (i := 38) rfl) qsub_nil))))))))))))))))))))))) (fr_X4_read h E0))
  obtain ⟨v7, -, E⟩ := qbd_el E
  obtain ⟨h13, q_h13, E⟩ := qbd_el E
  have e_h13 := qfr_Ik q_h13 (List.mem_of_getElem? (i := 1) rfl) e_h4
  rcases qif_el E with E | E
  · obtain ⟨h36, E0, E⟩ := qbv_el E
    have e_h36 := qfr_tr e_h13 (qfr_sub (qsub_c (List.mem_of_getElem? (i := 17) rfl) (qsub_c (List.mem_of_getElem? (i := 18) rfl) (qsub_c (List.mem_of_getElem? (i := 19) rfl) (qsub_c (List.mem_of_getElem? (i := 20) rfl) (qsub_c (List.mem_of_getElem? (i := 21) rfl) (qsub_c (List.mem_of_getElem? (i := 9) rfl) (qsub_c (List.mem_of_getElem? (i := 10) rfl) (qsub_c (List.mem_of_getElem? (i := 11) rfl) (qsub_c (List.mem_of_getElem? (i := 12) rfl) (qsub_c (List.mem_of_getElem? (i := 13) rfl) (qsub_c (List.mem_of_getElem? (i := 14) rfl) (qsub_c (List.mem_of_getElem? (i := 15) rfl) (qsub_c (List.mem_of_getElem? (i := 16) rfl) qsub_nil))))))))))))) (fr_X3_copy 4 14 h13 E0))
    obtain ⟨h44, q_h44, E⟩ := qbd_el E
    have e_h44 := qfr_Ik q_h44 (List.mem_of_getElem? (i := 8) rfl) e_h36
    obtain ⟨h54, q_h54, E⟩ := qbd_el E
    have e_h54 := qfr_Ik q_h54 (List.mem_of_getElem? (i := 0) rfl) e_h44
    exact qsome_f (Q := fun z => qfr w_X11_land h ((fun z : Int32 × qa_M => z.2) z)) E e_h54
  · exact qsome_f (Q := fun z => qfr w_X11_land h ((fun z : Int32 × qa_M => z.2) z)) E e_h13
def w_X5_clear (a0 : Nat) : List (Nat × Nat) := [(a0, 1), (a0, 5), (a0, 9)]
theorem fr_X5_clear (a0 : Nat) (h : qa_M) {z : qa_M} (E : m_X5_clear a0 h = some z) : qfr (w_X5_clear a0) h ((fun z : qa_M => z) z) := by
  unfold m_X5_clear at E
  have e_h : qfr (w_X5_clear a0) h h := qfr_rf
  obtain ⟨h2, q_h2, E⟩ := qbd_el E
  have e_h2 := qfr_Ik q_h2 (List.mem_of_getElem? (i := 0) rfl) e_h
  obtain ⟨h7, q_h7, E⟩ := qbd_el E
  have e_h7 := qfr_Ik q_h7 (List.mem_of_getElem? (i := 1) rfl) e_h2
  obtain ⟨h12, q_h12, E⟩ := qbd_el E
  have e_h12 := qfr_Ik q_h12 (List.mem_of_getElem? (i := 2) rfl) e_h7
  exact qsome_f (Q := fun z => qfr (w_X5_clear a0) h ((fun z : qa_M => z) z)) E e_h12
def w_X5_addApart (a0 : Nat) : List (Nat × Nat) := [((a0 + 1), 0), ((a0 + 2), 0), ((a0 + 3), 0), (a0, 1)]
theorem fr_X5_addApart (a0 : Nat) (x1 : Int32) (x2 : Int32) (x3 : Int32) (h : qa_M) {z : qa_M} (E : m_X5_addApart a0 x1 x2 x3 h = some z) : qfr (w_X5_addApart a0) h ((fun z : qa_M => z) z) := by
  unfold m_X5_addApart at E
  have e_h : qfr (w_X5_addApart a0) h h := qfr_rf
  rcases qif_el E with E | E
  · exact qsome_f (Q := fun z => qfr (w_X5_addApart a0) h ((fun z : qa_M => z) z)) E e_h
  · obtain ⟨-, E⟩ := qck_el E
    obtain ⟨h18, q_h18, E⟩ := qbd_el E
    have e_h18 := qfr_I0 q_h18 (List.mem_of_getElem? (i := 0) rfl) e_h
    obtain ⟨-, E⟩ := qck_el E
    obtain ⟨h28, q_h28, E⟩ := qbd_el E
    have e_h28 := qfr_I0 q_h28 (List.mem_of_getElem? (i := 1) rfl) e_h18
    obtain ⟨-, E⟩ := qck_el E
    obtain ⟨h38, q_h38, E⟩ := qbd_el E
    have e_h38 := qfr_I0 q_h38 (List.mem_of_getElem? (i := 2) rfl) e_h28
    obtain ⟨h46, q_h46, E⟩ := qbd_el E
    have e_h46 := qfr_Ik q_h46 (List.mem_of_getElem? (i := 3) rfl) e_h38
    exact qsome_f (Q := fun z => qfr (w_X5_addApart a0) h ((fun z : qa_M => z) z)) E e_h46
def w_X6_readApart : List (Nat × Nat) := [(1, 3), (1, 4), (1, 5), (1, 6), (1, 7), (1, 8), (83, 1), (84, 0), (85, 0), (86, 0), (92, 1), (93, 0), (94, 0), (95, 0), (101, 1), (102, 0), (103, 0), (104, 0), (110, 1), (111, 0), (112, 0), (113, 0)]
theorem fr_X6_readApart (h : qa_M) {z : (Int32 × qa_M)} (E : m_X6_readApart h = some z) : qfr w_X6_readApart h ((fun z : Int32 × qa_M => z.2) z) := by
  unfold m_X6_readApart at E
  have e_h : qfr w_X6_readApart h h := qfr_rf
  obtain ⟨c6, h6, E0, E⟩ := qbn_el E
  have e_h6 := qfr_tr e_h (qfr_sub (qsub_c (List.mem_of_getElem? (i := 0) rfl) (qsub_c (List.mem_of_getElem? (i := 1) rfl) (qsub_c (List.mem_of_getElem? (i := 2) rfl) (qsub_c (List.mem_of_getElem? (i := 3) rfl) (qsub_c (List.mem_of_getElem? (i := 4) rfl) (qsub_c (List.mem_of_getElem? (i := 5) rfl) qsub_nil)))))) (fr_X9_takeNumber (0 : Int32) (3 : Int32) h E0))
  rcases qif_el E with E | E
  · exact qsome_f (Q := fun z => qfr w_X6_readApart h ((fun z : Int32 × qa_M => z.2) z)) E e_h6
  · obtain ⟨v21, -, E⟩ := qbd_el E
    obtain ⟨c28, h28, E0, E⟩ := qbn_el E
    have e_h28 := qfr_tr e_h6 (qfr_sub (qsub_c (List.mem_of_getElem? (i := 0) rfl) (qsub_c (List.mem_of_getElem? (i := 1) rfl) (qsub_c (List.mem_of_getElem? (i := 2) rfl) (qsub_c (List.mem_of_getElem? (i := 3) rfl) (qsub_c (List.mem_of_getElem? (i := 4) rfl) (qsub_c (List.mem_of_getElem? (i := 5) rfl) qsub_nil)))))) (fr_X9_takeNumber (0 : Int32) (3 : Int32) h6 E0))
    rcases qif_el E with E | E
    · exact qsome_f (Q := fun z => qfr w_X6_readApart h ((fun z : Int32 × qa_M => z.2) z)) E e_h28
    · obtain ⟨v43, -, E⟩ := qbd_el E
      obtain ⟨c50, h50, E0, E⟩ := qbn_el E
      have e_h50 := qfr_tr e_h28 (qfr_sub (qsub_c (List.mem_of_getElem? (i := 0) rfl) (qsub_c (List.mem_of_getElem? (i := 1) rfl) (qsub_c (List.mem_of_getElem? (i := 2) rfl) (qsub_c (List.mem_of_getElem? (i := 3) rfl) (qsub_c (List.mem_of_getElem? (i := 4) rfl) (qsub_c (List.mem_of_getElem? (i := 5) rfl) qsub_nil)))))) (fr_X9_takeNumber (1 : Int32) (5 : Int32) h28 E0))
      rcases qif_el E with E | E
      · exact qsome_f (Q := fun z => qfr w_X6_readApart h ((fun z : Int32 × qa_M => z.2) z)) E e_h50
      · obtain ⟨a59, -, E⟩ := qnn_el E
        obtain ⟨pz, E⟩ := qpr_el E
        rcases pz with rfl | rfl | rfl | rfl
        · obtain ⟨h71, E0, E⟩ := qbv_el E
          have e_h71 := qfr_tr e_h50 (qfr_sub (qsub_c (List.mem_of_getElem? (i := 7) rfl) (qsub_c (List.mem_of_getElem? (i := 8) rfl) (qsub_c (List.mem_of_getElem? (i := 9) rfl) (qsub_c (List.mem_of_getElem? (i := 6) rfl) qsub_nil)))) (fr_X5_addApart 83 v21 v43 (h50.1 1 6) h50 E0))
          exact qsome_f (Q := fun z => qfr w_X6_readApart h ((fun z : Int32 × qa_M => z.2) z)) E e_h71
        · obtain ⟨h71, E0, E⟩ := qbv_el E
          have e_h71 := qfr_tr e_h50 (qfr_sub (qsub_c (List.mem_of_getElem? (i := 11) rfl) (qsub_c (List.mem_of_getElem? (i := 12) rfl) (qsub_c (List.mem_of_getElem? (i := 13) rfl) (qsub_c (List.mem_of_getElem? (i := 10) rfl) qsub_nil)))) (fr_X5_addApart 92 v21 v43 (h50.1 1 6) h50 E0))
          exact qsome_f (Q := fun z => qfr w_X6_readApart h ((fun z : Int32 × qa_M => z.2) z)) E e_h71
        · obtain ⟨h71, E0, E⟩ := qbv_el E
          have e_h71 := qfr_tr e_h50 (qfr_sub (qsub_c (List.mem_of_getElem? (i := 15) rfl) (qsub_c (List.mem_of_getElem? (i := 16) rfl) (qsub_c (List.mem_of_getElem? (i := 17) rfl) (qsub_c (List.mem_of_getElem? (i := 14) rfl) qsub_nil)))) (fr_X5_addApart 101 v21 v43 (h50.1 1 6) h50 E0))
          exact qsome_f (Q := fun z => qfr w_X6_readApart h ((fun z : Int32 × qa_M => z.2) z)) E e_h71
        · obtain ⟨h71, E0, E⟩ := qbv_el E
          have e_h71 := qfr_tr e_h50 (qfr_sub (qsub_c (List.mem_of_getElem? (i := 19) rfl) (qsub_c (List.mem_of_getElem? (i := 20) rfl) (qsub_c (List.mem_of_getElem? (i := 21) rfl) (qsub_c (List.mem_of_getElem? (i := 18) rfl) qsub_nil)))) (fr_X5_addApart 110 v21 v43 (h50.1 1 6) h50 E0))
          exact qsome_f (Q := fun z => qfr w_X6_readApart h ((fun z : Int32 × qa_M => z.2) z)) E e_h71
def w_X5_beginBar (a0 : Nat) : List (Nat × Nat) := [((a0 + 4), 0), ((a0 + 5), 0), (a0, 5)]
theorem fr_X5_beginBar (a0 : Nat) (x1 : Int32) (h : qa_M) {z : qa_M} (E : m_X5_beginBar a0 x1 h = some z) : qfr (w_X5_beginBar a0) h ((fun z : qa_M => z) z) := by
  unfold m_X5_beginBar at E
  have e_h : qfr (w_X5_beginBar a0) h h := qfr_rf
  rcases qif_el E with E | E
  · exact qsome_f (Q := fun z => qfr (w_X5_beginBar a0) h ((fun z : qa_M => z) z)) E e_h
  · obtain ⟨-, E⟩ := qck_el E
    obtain ⟨h18, q_h18, E⟩ := qbd_el E
    have e_h18 := qfr_I0 q_h18 (List.mem_of_getElem? (i := 0) rfl) e_h
    obtain ⟨-, E⟩ := qck_el E
    obtain ⟨h31, q_h31, E⟩ := qbd_el E
    have e_h31 := qfr_I0 q_h31 (List.mem_of_getElem? (i := 1) rfl) e_h18
    obtain ⟨h39, q_h39, E⟩ := qbd_el E
    have e_h39 := qfr_Ik q_h39 (List.mem_of_getElem? (i := 2) rfl) e_h31
    exact qsome_f (Q := fun z => qfr (w_X5_beginBar a0) h ((fun z : qa_M => z) z)) E e_h39
def w_X6_readBarred : List (Nat × Nat) := [(1, 3), (1, 4), (1, 5), (1, 6), (1, 7), (1, 8), (83, 5), (87, 0), (88, 0), (92, 5), (96, 0), (97, 0), (101, 5), (105, 0), (106, 0), (110, 5), (114, 0), (115, 0)]
theorem fr_X6_readBarred (h : qa_M) {z : (Int32 × qa_M)} (E : m_X6_readBarred h = some z) : qfr w_X6_readBarred h ((fun z : Int32 × qa_M => z.2) z) := by
  unfold m_X6_readBarred at E
  have e_h : qfr w_X6_readBarred h h := qfr_rf
  obtain ⟨c6, h6, E0, E⟩ := qbn_el E
  have e_h6 := qfr_tr e_h (qfr_sub (qsub_c (List.mem_of_getElem? (i := 0) rfl) (qsub_c (List.mem_of_getElem? (i := 1) rfl) (qsub_c (List.mem_of_getElem? (i := 2) rfl) (qsub_c (List.mem_of_getElem? (i := 3) rfl) (qsub_c (List.mem_of_getElem? (i := 4) rfl) (qsub_c (List.mem_of_getElem? (i := 5) rfl) qsub_nil)))))) (fr_X9_takeNumber (0 : Int32) (3 : Int32) h E0))
  rcases qif_el E with E | E
  · exact qsome_f (Q := fun z => qfr w_X6_readBarred h ((fun z : Int32 × qa_M => z.2) z)) E e_h6
  · obtain ⟨a15, -, E⟩ := qnn_el E
    obtain ⟨pz, E⟩ := qpr_el E
    rcases pz with rfl | rfl | rfl | rfl
    · obtain ⟨h25, E0, E⟩ := qbv_el E
      have e_h25 := qfr_tr e_h6 (qfr_sub (qsub_c (List.mem_of_getElem? (i := 7) rfl) (qsub_c (List.mem_of_getElem? (i := 8) rfl) (qsub_c (List.mem_of_getElem? (i := 6) rfl) qsub_nil))) (fr_X5_beginBar 83 (h6.1 1 6) h6 E0))
      exact qsome_f (Q := fun z => qfr w_X6_readBarred h ((fun z : Int32 × qa_M => z.2) z)) E e_h25
    · obtain ⟨h25, E0, E⟩ := qbv_el E
      have e_h25 := qfr_tr e_h6 (qfr_sub (qsub_c (List.mem_of_getElem? (i := 10) rfl) (qsub_c (List.mem_of_getElem? (i := 11) rfl) (qsub_c (List.mem_of_getElem? (i := 9) rfl) qsub_nil))) (fr_X5_beginBar 92 (h6.1 1 6) h6 E0))
      exact qsome_f (Q := fun z => qfr w_X6_readBarred h ((fun z : Int32 × qa_M => z.2) z)) E e_h25
    · obtain ⟨h25, E0, E⟩ := qbv_el E
      have e_h25 := qfr_tr e_h6 (qfr_sub (qsub_c (List.mem_of_getElem? (i := 13) rfl) (qsub_c (List.mem_of_getElem? (i := 14) rfl) (qsub_c (List.mem_of_getElem? (i := 12) rfl) qsub_nil))) (fr_X5_beginBar 101 (h6.1 1 6) h6 E0))
      exact qsome_f (Q := fun z => qfr w_X6_readBarred h ((fun z : Int32 × qa_M => z.2) z)) E e_h25
    · obtain ⟨h25, E0, E⟩ := qbv_el E
      have e_h25 := qfr_tr e_h6 (qfr_sub (qsub_c (List.mem_of_getElem? (i := 16) rfl) (qsub_c (List.mem_of_getElem? (i := 17) rfl) (qsub_c (List.mem_of_getElem? (i := 15) rfl) qsub_nil))) (fr_X5_beginBar 110 (h6.1 1 6) h6 E0))
      exact qsome_f (Q := fun z => qfr w_X6_readBarred h ((fun z : Int32 × qa_M => z.2) z)) E e_h25
def w_X6_isRoomForPart : List (Nat × Nat) := [(1, 8), (21, 3)]
theorem fr_X6_isRoomForPart (h : qa_M) {z : (Int32 × qa_M)} (E : m_X6_isRoomForPart h = some z) : qfr w_X6_isRoomForPart h ((fun z : Int32 × qa_M => z.2) z) := by
  unfold m_X6_isRoomForPart at E
  have e_h : qfr w_X6_isRoomForPart h h := qfr_rf
  rcases qif_el E with E | E
  · obtain ⟨h32, q_h32, E⟩ := qbd_el E
    have e_h32 := qfr_Ik q_h32 (List.mem_of_getElem? (i := 1) rfl) e_h
    exact qsome_f (Q := fun z => qfr w_X6_isRoomForPart h ((fun z : Int32 × qa_M => z.2) z)) E e_h32
  · obtain ⟨c21, h21, E0, E⟩ := qbn_el E
    have e_h21 := qfr_tr e_h (qfr_sub (qsub_c (List.mem_of_getElem? (i := 0) rfl) qsub_nil) (fr_X9_failAt (h.1 1 4) (3 : Int32) h E0))
    obtain ⟨-, E⟩ := qpr_el E
    exact qsome_f (Q := fun z => qfr w_X6_isRoomForPart h ((fun z : Int32 × qa_M => z.2) z)) E e_h21
def w_X5_emit (a0 : Nat) : List (Nat × Nat) := [((a0 + 6), 0), (a0, 9)]
theorem fr_X5_emit (a0 : Nat) (x1 : Int32) (h : qa_M) {z : qa_M} (E : m_X5_emit a0 x1 h = some z) : qfr (w_X5_emit a0) h ((fun z : qa_M => z) z) := by
  unfold m_X5_emit at E
  have e_h : qfr (w_X5_emit a0) h h := qfr_rf
  rcases qif_el E with E | E
  · exact qsome_f (Q := fun z => qfr (w_X5_emit a0) h ((fun z : qa_M => z) z)) E e_h
  · obtain ⟨-, E⟩ := qck_el E
    obtain ⟨h21, q_h21, E⟩ := qbd_el E
    have e_h21 := qfr_I0 q_h21 (List.mem_of_getElem? (i := 0) rfl) e_h
    obtain ⟨h29, q_h29, E⟩ := qbd_el E
    have e_h29 := qfr_Ik q_h29 (List.mem_of_getElem? (i := 1) rfl) e_h21
    exact qsome_f (Q := fun z => qfr (w_X5_emit a0) h ((fun z : qa_M => z) z)) E e_h29
def wf_X6_readValue_b90 : List (Nat × Nat) := [(1, 3), (1, 4), (1, 5), (1, 6), (83, 9), (89, 0), (92, 9), (98, 0), (101, 9), (107, 0), (110, 9), (116, 0)]
theorem fr_X6_readValue_b90 (s0 : Nat) (s1 : Int32) (h : qa_M) {z : (Int32 × qa_M)} (E : f_X6_readValue_b90 s0 s1 h = some z) : qfr wf_X6_readValue_b90 h ((fun z : Int32 × qa_M => z.2) z) := by
  unfold f_X6_readValue_b90 at E
  have e_h : qfr wf_X6_readValue_b90 h h := qfr_rf
  obtain ⟨pz, E⟩ := qpr_el E
  rcases pz with rfl | rfl | rfl | rfl
  · obtain ⟨h90, E0, E⟩ := qbv_el E
    have e_h90 := qfr_tr e_h (qfr_sub (qsub_c (List.mem_of_getElem? (i := 5) rfl) (qsub_c (List.mem_of_getElem? (i := 4) rfl) qsub_nil)) (fr_X5_emit 83 s1 h E0))
    obtain ⟨h97, E0, E⟩ := qbv_el E
    have e_h97 := qfr_tr e_h90 (qfr_sub (qsub_c (List.mem_of_getElem? (i := 0) rfl) (qsub_c (List.mem_of_getElem? (i := 1) rfl) (qsub_c (List.mem_of_getElem? (i := 2) rfl) (qsub_c (List.mem_of_getElem? (i := 3) rfl) qsub_nil)))) (fr_X9_scan h90 E0))
    exact qsome_f (Q := fun z => qfr wf_X6_readValue_b90 h ((fun z : Int32 × qa_M => z.2) z)) E e_h97
  · obtain ⟨h90, E0, E⟩ := qbv_el E
    have e_h90 := qfr_tr e_h (qfr_sub (qsub_c (List.mem_of_getElem? (i := 7) rfl) (qsub_c (List.mem_of_getElem? (i := 6) rfl) qsub_nil)) (fr_X5_emit 92 s1 h E0))
    obtain ⟨h97, E0, E⟩ := qbv_el E
    have e_h97 := qfr_tr e_h90 (qfr_sub (qsub_c (List.mem_of_getElem? (i := 0) rfl) (qsub_c (List.mem_of_getElem? (i := 1) rfl) (qsub_c (List.mem_of_getElem? (i := 2) rfl) (qsub_c (List.mem_of_getElem? (i := 3) rfl) qsub_nil)))) (fr_X9_scan h90 E0))
    exact qsome_f (Q := fun z => qfr wf_X6_readValue_b90 h ((fun z : Int32 × qa_M => z.2) z)) E e_h97
  · obtain ⟨h90, E0, E⟩ := qbv_el E
    have e_h90 := qfr_tr e_h (qfr_sub (qsub_c (List.mem_of_getElem? (i := 9) rfl) (qsub_c (List.mem_of_getElem? (i := 8) rfl) qsub_nil)) (fr_X5_emit 101 s1 h E0))
    obtain ⟨h97, E0, E⟩ := qbv_el E
    have e_h97 := qfr_tr e_h90 (qfr_sub (qsub_c (List.mem_of_getElem? (i := 0) rfl) (qsub_c (List.mem_of_getElem? (i := 1) rfl) (qsub_c (List.mem_of_getElem? (i := 2) rfl) (qsub_c (List.mem_of_getElem? (i := 3) rfl) qsub_nil)))) (fr_X9_scan h90 E0))
    exact qsome_f (Q := fun z => qfr wf_X6_readValue_b90 h ((fun z : Int32 × qa_M => z.2) z)) E e_h97
  · obtain ⟨h90, E0, E⟩ := qbv_el E
    have e_h90 := qfr_tr e_h (qfr_sub (qsub_c (List.mem_of_getElem? (i := 11) rfl) (qsub_c (List.mem_of_getElem? (i := 10) rfl) qsub_nil)) (fr_X5_emit 110 s1 h E0))
    obtain ⟨h97, E0, E⟩ := qbv_el E
    have e_h97 := qfr_tr e_h90 (qfr_sub (qsub_c (List.mem_of_getElem? (i := 0) rfl) (qsub_c (List.mem_of_getElem? (i := 1) rfl) (qsub_c (List.mem_of_getElem? (i := 2) rfl) (qsub_c (List.mem_of_getElem? (i := 3) rfl) qsub_nil)))) (fr_X9_scan h90 E0))
    exact qsome_f (Q := fun z => qfr wf_X6_readValue_b90 h ((fun z : Int32 × qa_M => z.2) z)) E e_h97
def wf_X6_readValue_b59 : List (Nat × Nat) := [(1, 3), (1, 4), (1, 5), (1, 6), (1, 8), (21, 3), (83, 9), (89, 0), (92, 9), (98, 0), (101, 9), (107, 0), (110, 9), (116, 0)]
theorem fr_X6_readValue_b59 (x1 : Int32) (h : qa_M) {z : (Int32 × qa_M)} (E : f_X6_readValue_b59 x1 h = some z) : qfr wf_X6_readValue_b59 h ((fun z : Int32 × qa_M => z.2) z) := by
  unfold f_X6_readValue_b59 at E
  have e_h : qfr wf_X6_readValue_b59 h h := qfr_rf
  obtain ⟨c60, h60, E0, E⟩ := qbn_el E
  have e_h60 := qfr_tr e_h (qfr_sub (qsub_c (List.mem_of_getElem? (i := 4) rfl) (qsub_c (List.mem_of_getElem? (i := 5) rfl) qsub_nil)) (fr_X6_isRoomForPart h E0))
  rcases qif_el E with E | E
  · exact qsome_f (Q := fun z => qfr wf_X6_readValue_b59 h ((fun z : Int32 × qa_M => z.2) z)) E e_h60
  · obtain ⟨a69, -, E⟩ := qnn_el E
    obtain ⟨pz, E⟩ := qpr_el E
    rcases pz with rfl | rfl | rfl | rfl
    · rcases qif_el E with E | E
      · exact qfr_tr e_h60 (qfr_sub (qsub_c (List.mem_of_getElem? (i := 0) rfl) (qsub_c (List.mem_of_getElem? (i := 1) rfl) (qsub_c (List.mem_of_getElem? (i := 2) rfl) (qsub_c (List.mem_of_getElem? (i := 3) rfl) (qsub_c (List.mem_of_getElem? (i := 6) rfl) (qsub_c (List.mem_of_getElem? (i := 7) rfl) (qsub_c (List.mem_of_getElem? (i := 8) rfl) (qsub_c (List.mem_of_getElem? (i := 9) rfl) (qsub_c (List.mem_of_getElem? (i := 10) rfl) (qsub_c (List.mem_of_getElem? (i := 11) rfl) (qsub_c (List.mem_of_getElem? (i := 12) rfl) (qsub_c (List.mem_of_getElem? (i := 13) rfl) qsub_nil)))))))))))) (fr_X6_readValue_b90 83 (h60.1 1 5) h60 E))
      · exact qfr_tr e_h60 (qfr_sub (qsub_c (List.mem_of_getElem? (i := 0) rfl) (qsub_c (List.mem_of_getElem? (i := 1) rfl) (qsub_c (List.mem_of_getElem? (i := 2) rfl) (qsub_c (List.mem_of_getElem? (i := 3) rfl) (qsub_c (List.mem_of_getElem? (i := 6) rfl) (qsub_c (List.mem_of_getElem? (i := 7) rfl) (qsub_c (List.mem_of_getElem? (i := 8) rfl) (qsub_c (List.mem_of_getElem? (i := 9) rfl) (qsub_c (List.mem_of_getElem? (i := 10) rfl) (qsub_c (List.mem_of_getElem? (i := 11) rfl) (qsub_c (List.mem_of_getElem? (i := 12) rfl) (qsub_c (List.mem_of_getElem? (i := 13) rfl) qsub_nil)))))))))))) (fr_X6_readValue_b90 83 ((-1 : Int32) - x1) h60 E))
    · rcases qif_el E with E | E
      · exact qfr_tr e_h60 (qfr_sub (qsub_c (List.mem_of_getElem? (i := 0) rfl) (qsub_c (List.mem_of_getElem? (i := 1) rfl) (qsub_c (List.mem_of_getElem? (i := 2) rfl) (qsub_c (List.mem_of_getElem? (i := 3) rfl) (qsub_c (List.mem_of_getElem? (i := 6) rfl) (qsub_c (List.mem_of_getElem? (i := 7) rfl) (qsub_c (List.mem_of_getElem? (i := 8) rfl) (qsub_c (List.mem_of_getElem? (i := 9) rfl) (qsub_c (List.mem_of_getElem? (i := 10) rfl) (qsub_c (List.mem_of_getElem? (i := 11) rfl) (qsub_c (List.mem_of_getElem? (i := 12) rfl) (qsub_c (List.mem_of_getElem? (i := 13) rfl) qsub_nil)))))))))))) (fr_X6_readValue_b90 92 (h60.1 1 5) h60 E))
      · exact qfr_tr e_h60 (qfr_sub (qsub_c (List.mem_of_getElem? (i := 0) rfl) (qsub_c (List.mem_of_getElem? (i := 1) rfl) (qsub_c (List.mem_of_getElem? (i := 2) rfl) (qsub_c (List.mem_of_getElem? (i := 3) rfl) (qsub_c (List.mem_of_getElem? (i := 6) rfl) (qsub_c (List.mem_of_getElem? (i := 7) rfl) (qsub_c (List.mem_of_getElem? (i := 8) rfl) (qsub_c (List.mem_of_getElem? (i := 9) rfl) (qsub_c (List.mem_of_getElem? (i := 10) rfl) (qsub_c (List.mem_of_getElem? (i := 11) rfl) (qsub_c (List.mem_of_getElem? (i := 12) rfl) (qsub_c (List.mem_of_getElem? (i := 13) rfl) qsub_nil)))))))))))) (fr_X6_readValue_b90 92 ((-1 : Int32) - x1) h60 E))
    · rcases qif_el E with E | E
      · exact qfr_tr e_h60 (qfr_sub (qsub_c (List.mem_of_getElem? (i := 0) rfl) (qsub_c (List.mem_of_getElem? (i := 1) rfl) (qsub_c (List.mem_of_getElem? (i := 2) rfl) (qsub_c (List.mem_of_getElem? (i := 3) rfl) (qsub_c (List.mem_of_getElem? (i := 6) rfl) (qsub_c (List.mem_of_getElem? (i := 7) rfl) (qsub_c (List.mem_of_getElem? (i := 8) rfl) (qsub_c (List.mem_of_getElem? (i := 9) rfl) (qsub_c (List.mem_of_getElem? (i := 10) rfl) (qsub_c (List.mem_of_getElem? (i := 11) rfl) (qsub_c (List.mem_of_getElem? (i := 12) rfl) (qsub_c (List.mem_of_getElem? (i := 13) rfl) qsub_nil)))))))))))) (fr_X6_readValue_b90 101 (h60.1 1 5) h60 E))
      · exact qfr_tr e_h60 (qfr_sub (qsub_c (List.mem_of_getElem? (i := 0) rfl) (qsub_c (List.mem_of_getElem? (i := 1) rfl) (qsub_c (List.mem_of_getElem? (i := 2) rfl) (qsub_c (List.mem_of_getElem? (i := 3) rfl) (qsub_c (List.mem_of_getElem? (i := 6) rfl) (qsub_c (List.mem_of_getElem? (i := 7) rfl) (qsub_c (List.mem_of_getElem? (i := 8) rfl) (qsub_c (List.mem_of_getElem? (i := 9) rfl) (qsub_c (List.mem_of_getElem? (i := 10) rfl) (qsub_c (List.mem_of_getElem? (i := 11) rfl) (qsub_c (List.mem_of_getElem? (i := 12) rfl) (qsub_c (List.mem_of_getElem? (i := 13) rfl) qsub_nil)))))))))))) (fr_X6_readValue_b90 101 ((-1 : Int32) - x1) h60 E))
    · rcases qif_el E with E | E
      · exact qfr_tr e_h60 (qfr_sub (qsub_c (List.mem_of_getElem? (i := 0) rfl) (qsub_c (List.mem_of_getElem? (i := 1) rfl) (qsub_c (List.mem_of_getElem? (i := 2) rfl) (qsub_c (List.mem_of_getElem? (i := 3) rfl) (qsub_c (List.mem_of_getElem? (i := 6) rfl) (qsub_c (List.mem_of_getElem? (i := 7) rfl) (qsub_c (List.mem_of_getElem? (i := 8) rfl) (qsub_c (List.mem_of_getElem? (i := 9) rfl) (qsub_c (List.mem_of_getElem? (i := 10) rfl) (qsub_c (List.mem_of_getElem? (i := 11) rfl) (qsub_c (List.mem_of_getElem? (i := 12) rfl) (qsub_c (List.mem_of_getElem? (i := 13) rfl) qsub_nil)))))))))))) (fr_X6_readValue_b90 110 (h60.1 1 5) h60 E))
      · exact qfr_tr e_h60 (qfr_sub (qsub_c (List.mem_of_getElem? (i := 0) rfl) (qsub_c (List.mem_of_getElem? (i := 1) rfl) (qsub_c (List.mem_of_getElem? (i := 2) rfl) (qsub_c (List.mem_of_getElem? (i := 3) rfl) (qsub_c (List.mem_of_getElem? (i := 6) rfl) (qsub_c (List.mem_of_getElem? (i := 7) rfl) (qsub_c (List.mem_of_getElem? (i := 8) rfl) (qsub_c (List.mem_of_getElem? (i := 9) rfl) (qsub_c (List.mem_of_getElem? (i := 10) rfl) (qsub_c (List.mem_of_getElem? (i := 11) rfl) (qsub_c (List.mem_of_getElem? (i := 12) rfl) (qsub_c (List.mem_of_getElem? (i := 13) rfl) qsub_nil)))))))))))) (fr_X6_readValue_b90 110 ((-1 : Int32) - x1) h60 E))
def wf_X6_readValue_b35 : List (Nat × Nat) := [(1, 3), (1, 4), (1, 5), (1, 6), (1, 8), (21, 3), (83, 9), (89, 0), (92, 9), (98, 0), (101, 9), (107, 0), (110, 9), (116, 0)]
theorem fr_X6_readValue_b35 (x1 : Int32) (h : qa_M) {z : (Int32 × qa_M)} (E : f_X6_readValue_b35 x1 h = some z) : qfr wf_X6_readValue_b35 h ((fun z : Int32 × qa_M => z.2) z) := by
  unfold f_X6_readValue_b35 at E
  have e_h : qfr wf_X6_readValue_b35 h h := qfr_rf
  rcases qif_el E with E | E
  · rcases qif_el E with E | E
    · exact qfr_tr e_h (qfr_sub (qsub_c (List.mem_of_getElem? (i := 0) rfl) (qsub_c (List.mem_of_getElem? (i := 1) rfl) (qsub_c (List.mem_of_getElem? (i := 2) rfl) (qsub_c (List.mem_of_getElem? (i := 3) rfl) (qsub_c (List.mem_of_getElem? (i := 4) rfl) (qsub_c (List.mem_of_getElem? (i := 5) rfl) (qsub_c (List.mem_of_getElem? (i := 6) rfl) (qsub_c (List.mem_of_getElem? (i := 7) rfl) (qsub_c (List.mem_of_getElem? (i := 8) rfl) (qsub_c (List.mem_of_getElem? (i := 9) rfl) (qsub_c (List.mem_of_getElem? (i := 10) rfl) (qsub_c (List.mem_of_getElem? (i := 11) rfl) (qsub_c (List.mem_of_getElem? (i := 12) rfl) (qsub_c (List.mem_of_getElem? (i := 13) rfl) qsub_nil)))))))))))))) (fr_X6_readValue_b59 x1 h E))
    · obtain ⟨c55, h55, E0, E⟩ := qbn_el E
      have e_h55 := qfr_tr e_h (qfr_sub (qsub_c (List.mem_of_getElem? (i := 4) rfl) qsub_nil) (fr_X9_fail (1 : Int32) h E0))
      obtain ⟨-, E⟩ := qpr_el E
      exact qsome_f (Q := fun z => qfr wf_X6_readValue_b35 h ((fun z : Int32 × qa_M => z.2) z)) E e_h55
  · exact qfr_tr e_h (qfr_sub (qsub_c (List.mem_of_getElem? (i := 0) rfl) (qsub_c (List.mem_of_getElem? (i := 1) rfl) (qsub_c (List.mem_of_getElem? (i := 2) rfl) (qsub_c (List.mem_of_getElem? (i := 3) rfl) (qsub_c (List.mem_of_getElem? (i := 4) rfl) (qsub_c (List.mem_of_getElem? (i := 5) rfl) (qsub_c (List.mem_of_getElem? (i := 6) rfl) (qsub_c (List.mem_of_getElem? (i := 7) rfl) (qsub_c (List.mem_of_getElem? (i := 8) rfl) (qsub_c (List.mem_of_getElem? (i := 9) rfl) (qsub_c (List.mem_of_getElem? (i := 10) rfl) (qsub_c (List.mem_of_getElem? (i := 11) rfl) (qsub_c (List.mem_of_getElem? (i := 12) rfl) (qsub_c (List.mem_of_getElem? (i := 13) rfl) qsub_nil)))))))))))))) (fr_X6_readValue_b59 x1 h E))
def w_X6_readValue : List (Nat × Nat) := [(1, 3), (1, 4), (1, 5), (1, 6), (1, 8), (21, 3), (83, 9), (89, 0), (92, 9), (98, 0), (101, 9), (107, 0), (110, 9), (116, 0)]
theorem fr_X6_readValue (h : qa_M) {z : (Int32 × qa_M)} (E : m_X6_readValue h = some z) : qfr w_X6_readValue h ((fun z : Int32 × qa_M => z.2) z) := by
  unfold m_X6_readValue at E
  have e_h : qfr w_X6_readValue h h := qfr_rf
  obtain ⟨c6, h6, E0, E⟩ := qbn_el E
  have e_h6 := qfr_tr e_h (qfr_sub qsub_nil (fr_X9_among 3 h E0))
  obtain ⟨v9, -, E⟩ := qbd_el E
  rcases qif_el E with E | E
  · exact qfr_tr e_h6 (qfr_sub (qsub_c (List.mem_of_getElem? (i := 0) rfl) (qsub_c (List.mem_of_getElem? (i := 1) rfl) (qsub_c (List.mem_of_getElem? (i := 2) rfl) (qsub_c (List.mem_of_getElem? (i := 3) rfl) (qsub_c (List.mem_of_getElem? (i := 4) rfl) (qsub_c (List.mem_of_getElem? (i := 5) rfl) (qsub_c (List.mem_of_getElem? (i := 6) rfl) (qsub_c (List.mem_of_getElem? (i := 7) rfl) (qsub_c (List.mem_of_getElem? (i := 8) rfl) (qsub_c (List.mem_of_getElem? (i := 9) rfl) (qsub_c (List.mem_of_getElem? (i := 10) rfl) (qsub_c (List.mem_of_getElem? (i := 11) rfl) (qsub_c (List.mem_of_getElem? (i := 12) rfl) (qsub_c (List.mem_of_getElem? (i := 13) rfl) qsub_nil)))))))))))))) (fr_X6_readValue_b35 v9 h6 E))
  · rcases qif_el E with E | E
    · obtain ⟨c31, h31, E0, E⟩ := qbn_el E
      have e_h31 := qfr_tr e_h6 (qfr_sub (qsub_c (List.mem_of_getElem? (i := 4) rfl) qsub_nil) (fr_X9_fail (0 : Int32) h6 E0))
      obtain ⟨-, E⟩ := qpr_el E
      exact qsome_f (Q := fun z => qfr w_X6_readValue h ((fun z : Int32 × qa_M => z.2) z)) E e_h31
    · exact qfr_tr e_h6 (qfr_sub (qsub_c (List.mem_of_getElem? (i := 0) rfl) (qsub_c (List.mem_of_getElem? (i := 1) rfl) (qsub_c (List.mem_of_getElem? (i := 2) rfl) (qsub_c (List.mem_of_getElem? (i := 3) rfl) (qsub_c (List.mem_of_getElem? (i := 4) rfl) (qsub_c (List.mem_of_getElem? (i := 5) rfl) (qsub_c (List.mem_of_getElem? (i := 6) rfl) (qsub_c (List.mem_of_getElem? (i := 7) rfl) (qsub_c (List.mem_of_getElem? (i := 8) rfl) (qsub_c (List.mem_of_getElem? (i := 9) rfl) (qsub_c (List.mem_of_getElem? (i := 10) rfl) (qsub_c (List.mem_of_getElem? (i := 11) rfl) (qsub_c (List.mem_of_getElem? (i := 12) rfl) (qsub_c (List.mem_of_getElem? (i := 13) rfl) qsub_nil)))))))))))))) (fr_X6_readValue_b35 v9 h6 E))
theorem fr_X6_signCode (h : qa_M) {z : (Int32 × qa_M)} (E : m_X6_signCode h = some z) : qfr wz h ((fun z : Int32 × qa_M => z.2) z) := by
  unfold m_X6_signCode at E
  have e_h : qfr wz h h := qfr_rf
  rcases qif_el E with E | E
  · rcases qif_el E with E | E
    · exact qsome_f (Q := fun z => qfr wz h ((fun z : Int32 × qa_M => z.2) z)) E e_h
    · rcases qif_el E with E | E
      · exact qsome_f (Q := fun z => qfr wz h ((fun z : Int32 × qa_M => z.2) z)) E e_h
      · rcases qif_el E with E | E
        · exact qsome_f (Q := fun z => qfr wz h ((fun z : Int32 × qa_M => z.2) z)) E e_h
        · rcases qif_el E with E | E
          · exact qsome_f (Q := fun z => qfr wz h ((fun z : Int32 × qa_M => z.2) z)) E e_h
          · rcases qif_el E with E | E
            · exact qsome_f (Q := fun z => qfr wz h ((fun z : Int32 × qa_M => z.2) z)) E e_h
            · rcases qif_el E with E | E
              · exact qsome_f (Q := fun z => qfr wz h ((fun z : Int32 × qa_M => z.2) z)) E e_h
              · rcases qif_el E with E | E
                · exact qsome_f (Q := fun z => qfr wz h ((fun z : Int32 × qa_M => z.2) z)) E e_h
                · rcases qif_el E with E | E
                  · exact qsome_f (Q := fun z => qfr wz h ((fun z : Int32 × qa_M => z.2) z)) E e_h
                  · rcases qif_el E with E | E
                    · exact qsome_f (Q := fun z => qfr wz h ((fun z : Int32 × qa_M => z.2) z)) E e_h
                    · exact qsome_f (Q := fun z => qfr wz h ((fun z : Int32 × qa_M => z.2) z)) E e_h
  · exact qsome_f (Q := fun z => qfr wz h ((fun z : Int32 × qa_M => z.2) z)) E e_h
def wf_X6_readSum_b110 : List (Nat × Nat) := [(83, 9), (89, 0), (92, 9), (98, 0), (101, 9), (107, 0), (110, 9), (116, 0)]
theorem fr_X6_readSum_b110 (x1 : Int32) (h : qa_M) {z : (Int32 × qa_M)} (E : f_X6_readSum_b110 x1 h = some z) : qfr wf_X6_readSum_b110 h ((fun z : Int32 × qa_M => z.2) z) := by
  unfold f_X6_readSum_b110 at E
  have e_h : qfr wf_X6_readSum_b110 h h := qfr_rf
  rcases qif_el E with E | E
  · exact qsome_f (Q := fun z => qfr wf_X6_readSum_b110 h ((fun z : Int32 × qa_M => z.2) z)) E e_h
  · obtain ⟨a115, -, E⟩ := qnn_el E
    obtain ⟨pz, E⟩ := qpr_el E
    rcases pz with rfl | rfl | rfl | rfl
    · obtain ⟨h119, E0, E⟩ := qbv_el E
      have e_h119 := qfr_tr e_h (qfr_sub (qsub_c (List.mem_of_getElem? (i := 1) rfl) (qsub_c (List.mem_of_getElem? (i := 0) rfl) qsub_nil)) (fr_X5_emit 83 x1 h E0))
      exact qsome_f (Q := fun z => qfr wf_X6_readSum_b110 h ((fun z : Int32 × qa_M => z.2) z)) E e_h119
    · obtain ⟨h119, E0, E⟩ := qbv_el E
      have e_h119 := qfr_tr e_h (qfr_sub (qsub_c (List.mem_of_getElem? (i := 3) rfl) (qsub_c (List.mem_of_getElem? (i := 2) rfl) qsub_nil)) (fr_X5_emit 92 x1 h E0))
      exact qsome_f (Q := fun z => qfr wf_X6_readSum_b110 h ((fun z : Int32 × qa_M => z.2) z)) E e_h119
    · obtain ⟨h119, E0, E⟩ := qbv_el E
      have e_h119 := qfr_tr e_h (qfr_sub (qsub_c (List.mem_of_getElem? (i := 5) rfl) (qsub_c (List.mem_of_getElem? (i := 4) rfl) qsub_nil)) (fr_X5_emit 101 x1 h E0))
      exact qsome_f (Q := fun z => qfr wf_X6_readSum_b110 h ((fun z : Int32 × qa_M => z.2) z)) E e_h119
    · obtain ⟨h119, E0, E⟩ := qbv_el E
      have e_h119 := qfr_tr e_h (qfr_sub (qsub_c (List.mem_of_getElem? (i := 7) rfl) (qsub_c (List.mem_of_getElem? (i := 6) rfl) qsub_nil)) (fr_X5_emit 110 x1 h E0))
      exact qsome_f (Q := fun z => qfr wf_X6_readSum_b110 h ((fun z : Int32 × qa_M => z.2) z)) E e_h119
theorem fr_X6_readSum_b104 (x1 : Int32) (x2 : Int32) (h : qa_M) {z : ((Int32 × Int32 × qa_M) ⊕ (Int32 × qa_M))} (E : f_X6_readSum_b104 x1 x2 h = some z) : qfr wz h ((Sum.elim (fun z : Int32 × Int32 × qa_M => z.2.2) (fun z : Int32 × qa_M => z.2)) z) := by
  unfold f_X6_readSum_b104 at E
  have e_h : qfr wz h h := qfr_rf
  obtain ⟨v104, -, E⟩ := qbd_el E
  exact qsome_f (Q := fun z => qfr wz h ((Sum.elim (fun z : Int32 × Int32 × qa_M => z.2.2) (fun z : Int32 × qa_M => z.2)) z)) E e_h
def wf_X6_readSum_b70 : List (Nat × Nat) := [(1, 3), (1, 4), (1, 5), (1, 6), (1, 8), (21, 3), (83, 9), (89, 0), (92, 9), (98, 0), (101, 9), (107, 0), (110, 9), (116, 0)]
theorem fr_X6_readSum_b70 (x1 : Int32) (x2 : Int32) (x3 : Int32) (x4 : Int32) (h : qa_M) {z : ((Int32 × Int32 × qa_M) ⊕ (Int32 × qa_M))} (E : f_X6_readSum_b70 x1 x2 x3 x4 h = some z) : qfr wf_X6_readSum_b70 h ((Sum.elim (fun z : Int32 × Int32 × qa_M => z.2.2) (fun z : Int32 × qa_M => z.2)) z) := by
  unfold f_X6_readSum_b70 at E
  have e_h : qfr wf_X6_readSum_b70 h h := qfr_rf
  obtain ⟨h74, E0, E⟩ := qbv_el E
  have e_h74 := qfr_tr e_h (qfr_sub (qsub_c (List.mem_of_getElem? (i := 0) rfl) (qsub_c (List.mem_of_getElem? (i := 1) rfl) (qsub_c (List.mem_of_getElem? (i := 2) rfl) (qsub_c (List.mem_of_getElem? (i := 3) rfl) qsub_nil)))) (fr_X9_scan h E0))
  obtain ⟨c78, h78, E0, E⟩ := qbn_el E
  have e_h78 := qfr_tr e_h74 (qfr_sub (qsub_c (List.mem_of_getElem? (i := 0) rfl) (qsub_c (List.mem_of_getElem? (i := 1) rfl) (qsub_c (List.mem_of_getElem? (i := 2) rfl) (qsub_c (List.mem_of_getElem? (i := 3) rfl) (qsub_c (List.mem_of_getElem? (i := 4) rfl) (qsub_c (List.mem_of_getElem? (i := 5) rfl) (qsub_c (List.mem_of_getElem? (i := 6) rfl) (qsub_c (List.mem_of_getElem? (i := 7) rfl) (qsub_c (List.mem_of_getElem? (i := 8) rfl) (qsub_c (List.mem_of_getElem? (i := 9) rfl) (qsub_c (List.mem_of_getElem? (i := 10) rfl) (qsub_c (List.mem_of_getElem? (i := 11) rfl) (qsub_c (List.mem_of_getElem? (i := 12) rfl) (qsub_c (List.mem_of_getElem? (i := 13) rfl) qsub_nil)))))))))))))) (fr_X6_readValue h74 E0))
  rcases qif_el E with E | E
  · refine qup_f (Q := fun z => qfr wf_X6_readSum_b70 h ((Sum.elim (fun z : Int32 × Int32 × qa_M => z.2.2) (fun z : Int32 × qa_M => z.2)) z)) E (fun rz E => ?_)
    exact qsome_f (Q := fun z => qfr wf_X6_readSum_b70 h ((fun z : Int32 × qa_M => z.2) z)) E e_h78
  · rcases qif_el E with E | E
    · obtain ⟨a97, -, E⟩ := qnn_el E
      obtain ⟨pz, E⟩ := qpr_el E
      rcases pz with rfl | rfl | rfl | rfl
      · obtain ⟨h101, E0, E⟩ := qbv_el E
        have e_h101 := qfr_tr e_h78 (qfr_sub (qsub_c (List.mem_of_getElem? (i := 7) rfl) (qsub_c (List.mem_of_getElem? (i := 6) rfl) qsub_nil)) (fr_X5_emit 83 x3 h78 E0))
        exact qfr_tr e_h101 (qfr_sub qsub_nil (fr_X6_readSum_b104 x1 x2 h101 E))
      · obtain ⟨h101, E0, E⟩ := qbv_el E
        have e_h101 := qfr_tr e_h78 (qfr_sub (qsub_c (List.mem_of_getElem? (i := 9) rfl) (qsub_c (List.mem_of_getElem? (i := 8) rfl) qsub_nil)) (fr_X5_emit 92 x3 h78 E0))
        exact qfr_tr e_h101 (qfr_sub qsub_nil (fr_X6_readSum_b104 x1 x2 h101 E))
      · obtain ⟨h101, E0, E⟩ := qbv_el E
        have e_h101 := qfr_tr e_h78 (qfr_sub (qsub_c (List.mem_of_getElem? (i := 11) rfl) (qsub_c (List.mem_of_getElem? (i := 10) rfl) qsub_nil)) (fr_X5_emit 101 x3 h78 E0))
        exact qfr_tr e_h101 (qfr_sub qsub_nil (fr_X6_readSum_b104 x1 x2 h101 E))
      · obtain ⟨h101, E0, E⟩ := qbv_el E
        have e_h101 := qfr_tr e_h78 (qfr_sub (qsub_c (List.mem_of_getElem? (i := 13) rfl) (qsub_c (List.mem_of_getElem? (i := 12) rfl) qsub_nil)) (fr_X5_emit 110 x3 h78 E0))
        exact qfr_tr e_h101 (qfr_sub qsub_nil (fr_X6_readSum_b104 x1 x2 h101 E))
    · obtain ⟨v92, -, E⟩ := qbd_el E
      exact qfr_tr e_h78 (qfr_sub qsub_nil (fr_X6_readSum_b104 v92 x2 h78 E))
def wf_X6_readSum_b51 : List (Nat × Nat) := [(1, 3), (1, 4), (1, 5), (1, 6), (1, 8), (21, 3), (83, 9), (89, 0), (92, 9), (98, 0), (101, 9), (107, 0), (110, 9), (116, 0)]
theorem fr_X6_readSum_b51 (x1 : Int32) (x2 : Int32) (x3 : Int32) (s0 : Int32) (h : qa_M) {z : ((Int32 × Int32 × qa_M) ⊕ (Int32 × qa_M))} (E : f_X6_readSum_b51 x1 x2 x3 s0 h = some z) : qfr wf_X6_readSum_b51 h ((Sum.elim (fun z : Int32 × Int32 × qa_M => z.2.2) (fun z : Int32 × qa_M => z.2)) z) := by
  unfold f_X6_readSum_b51 at E
  have e_h : qfr wf_X6_readSum_b51 h h := qfr_rf
  obtain ⟨v51, -, E⟩ := qbd_el E
  rcases qif_el E with E | E
  · exact qfr_tr e_h (qfr_sub (qsub_c (List.mem_of_getElem? (i := 0) rfl) (qsub_c (List.mem_of_getElem? (i := 1) rfl) (qsub_c (List.mem_of_getElem? (i := 2) rfl) (qsub_c (List.mem_of_getElem? (i := 3) rfl) (qsub_c (List.mem_of_getElem? (i := 4) rfl) (qsub_c (List.mem_of_getElem? (i := 5) rfl) (qsub_c (List.mem_of_getElem? (i := 6) rfl) (qsub_c (List.mem_of_getElem? (i := 7) rfl) (qsub_c (List.mem_of_getElem? (i := 8) rfl) (qsub_c (List.mem_of_getElem? (i := 9) rfl) (qsub_c (List.mem_of_getElem? (i := 10) rfl) (qsub_c (List.mem_of_getElem? (i := 11) rfl) (qsub_c (List.mem_of_getElem? (i := 12) rfl) (qsub_c (List.mem_of_getElem? (i := 13) rfl) qsub_nil)))))))))))))) (fr_X6_readSum_b70 x1 x2 x3 v51 h E))
  · rcases qif_el E with E | E
    · exact qfr_tr e_h (qfr_sub (qsub_c (List.mem_of_getElem? (i := 0) rfl) (qsub_c (List.mem_of_getElem? (i := 1) rfl) (qsub_c (List.mem_of_getElem? (i := 2) rfl) (qsub_c (List.mem_of_getElem? (i := 3) rfl) (qsub_c (List.mem_of_getElem? (i := 4) rfl) (qsub_c (List.mem_of_getElem? (i := 5) rfl) (qsub_c (List.mem_of_getElem? (i := 6) rfl) (qsub_c (List.mem_of_getElem? (i := 7) rfl) (qsub_c (List.mem_of_getElem? (i := 8) rfl) (qsub_c (List.mem_of_getElem? (i := 9) rfl) (qsub_c (List.mem_of_getElem? (i := 10) rfl) (qsub_c (List.mem_of_getElem? (i := 11) rfl) (qsub_c (List.mem_of_getElem? (i := 12) rfl) (qsub_c (List.mem_of_getElem? (i := 13) rfl) qsub_nil)))))))))))))) (fr_X6_readSum_b70 x1 x2 x3 v51 h E))
    · obtain ⟨a63, -, E⟩ := qnn_el E
      obtain ⟨pz, E⟩ := qpr_el E
      rcases pz with rfl | rfl | rfl | rfl
      · obtain ⟨h67, E0, E⟩ := qbv_el E
        have e_h67 := qfr_tr e_h (qfr_sub (qsub_c (List.mem_of_getElem? (i := 7) rfl) (qsub_c (List.mem_of_getElem? (i := 6) rfl) qsub_nil)) (fr_X5_emit 83 x1 h E0))
        exact qfr_tr e_h67 (qfr_sub (qsub_c (List.mem_of_getElem? (i := 0) rfl) (qsub_c (List.mem_of_getElem? (i := 1) rfl) (qsub_c (List.mem_of_getElem? (i := 2) rfl) (qsub_c (List.mem_of_getElem? (i := 3) rfl) (qsub_c (List.mem_of_getElem? (i := 4) rfl) (qsub_c (List.mem_of_getElem? (i := 5) rfl) (qsub_c (List.mem_of_getElem? (i := 6) rfl) (qsub_c (List.mem_of_getElem? (i := 7) rfl) (qsub_c (List.mem_of_getElem? (i := 8) rfl) (qsub_c (List.mem_of_getElem? (i := 9) rfl) (qsub_c (List.mem_of_getElem? (i := 10) rfl) (qsub_c (List.mem_of_getElem? (i := 11) rfl) (qsub_c (List.mem_of_getElem? (i := 12) rfl) (qsub_c (List.mem_of_getElem? (i := 13) rfl) qsub_nil)))))))))))))) (fr_X6_readSum_b70 x1 x2 x3 v51 h67 E))
      · obtain ⟨h67, E0, E⟩ := qbv_el E
        have e_h67 := qfr_tr e_h (qfr_sub (qsub_c (List.mem_of_getElem? (i := 9) rfl) (qsub_c (List.mem_of_getElem? (i := 8) rfl) qsub_nil)) (fr_X5_emit 92 x1 h E0))
        exact qfr_tr e_h67 (qfr_sub (qsub_c (List.mem_of_getElem? (i := 0) rfl) (qsub_c (List.mem_of_getElem? (i := 1) rfl) (qsub_c (List.mem_of_getElem? (i := 2) rfl) (qsub_c (List.mem_of_getElem? (i := 3) rfl) (qsub_c (List.mem_of_getElem? (i := 4) rfl) (qsub_c (List.mem_of_getElem? (i := 5) rfl) (qsub_c (List.mem_of_getElem? (i := 6) rfl) (qsub_c (List.mem_of_getElem? (i := 7) rfl) (qsub_c (List.mem_of_getElem? (i := 8) rfl) (qsub_c (List.mem_of_getElem? (i := 9) rfl) (qsub_c (List.mem_of_getElem? (i := 10) rfl) (qsub_c (List.mem_of_getElem? (i := 11) rfl) (qsub_c (List.mem_of_getElem? (i := 12) rfl) (qsub_c (List.mem_of_getElem? (i := 13) rfl) qsub_nil)))))))))))))) (fr_X6_readSum_b70 x1 x2 x3 v51 h67 E))
      · obtain ⟨h67, E0, E⟩ := qbv_el E
        have e_h67 := qfr_tr e_h (qfr_sub (qsub_c (List.mem_of_getElem? (i := 11) rfl) (qsub_c (List.mem_of_getElem? (i := 10) rfl) qsub_nil)) (fr_X5_emit 101 x1 h E0))
        exact qfr_tr e_h67 (qfr_sub (qsub_c (List.mem_of_getElem? (i := 0) rfl) (qsub_c (List.mem_of_getElem? (i := 1) rfl) (qsub_c (List.mem_of_getElem? (i := 2) rfl) (qsub_c (List.mem_of_getElem? (i := 3) rfl) (qsub_c (List.mem_of_getElem? (i := 4) rfl) (qsub_c (List.mem_of_getElem? (i := 5) rfl) (qsub_c (List.mem_of_getElem? (i := 6) rfl) (qsub_c (List.mem_of_getElem? (i := 7) rfl) (qsub_c (List.mem_of_getElem? (i := 8) rfl) (qsub_c (List.mem_of_getElem? (i := 9) rfl) (qsub_c (List.mem_of_getElem? (i := 10) rfl) (qsub_c (List.mem_of_getElem? (i := 11) rfl) (qsub_c (List.mem_of_getElem? (i := 12) rfl) (qsub_c (List.mem_of_getElem? (i := 13) rfl) qsub_nil)))))))))))))) (fr_X6_readSum_b70 x1 x2 x3 v51 h67 E))
      · obtain ⟨h67, E0, E⟩ := qbv_el E
        have e_h67 := qfr_tr e_h (qfr_sub (qsub_c (List.mem_of_getElem? (i := 13) rfl) (qsub_c (List.mem_of_getElem? (i := 12) rfl) qsub_nil)) (fr_X5_emit 110 x1 h E0))
        exact qfr_tr e_h67 (qfr_sub (qsub_c (List.mem_of_getElem? (i := 0) rfl) (qsub_c (List.mem_of_getElem? (i := 1) rfl) (qsub_c (List.mem_of_getElem? (i := 2) rfl) (qsub_c (List.mem_of_getElem? (i := 3) rfl) (qsub_c (List.mem_of_getElem? (i := 4) rfl) (qsub_c (List.mem_of_getElem? (i := 5) rfl) (qsub_c (List.mem_of_getElem? (i := 6) rfl) (qsub_c (List.mem_of_getElem? (i := 7) rfl) (qsub_c (List.mem_of_getElem? (i := 8) rfl) (qsub_c (List.mem_of_getElem? (i := 9) rfl) (qsub_c (List.mem_of_getElem? (i := 10) rfl) (qsub_c (List.mem_of_getElem? (i := 11) rfl) (qsub_c (List.mem_of_getElem? (i := 12) rfl) (qsub_c (List.mem_of_getElem? (i := 13) rfl) qsub_nil)))))))))))))) (fr_X6_readSum_b70 x1 x2 x3 v51 h67 E))
def wf_X6_readSum_b37 : List (Nat × Nat) := [(83, 9), (89, 0), (92, 9), (98, 0), (101, 9), (107, 0), (110, 9), (116, 0)]
theorem fr_X6_readSum_b37 (x1 : Int32) (h : qa_M) {z : (Int32 × qa_M)} (E : f_X6_readSum_b37 x1 h = some z) : qfr wf_X6_readSum_b37 h ((fun z : Int32 × qa_M => z.2) z) := by
  unfold f_X6_readSum_b37 at E
  have e_h : qfr wf_X6_readSum_b37 h h := qfr_rf
  exact qfr_tr e_h (qfr_sub (qsub_c (List.mem_of_getElem? (i := 0) rfl) (qsub_c (List.mem_of_getElem? (i := 1) rfl) (qsub_c (List.mem_of_getElem? (i := 2) rfl) (qsub_c (List.mem_of_getElem? (i := 3) rfl) (qsub_c (List.mem_of_getElem? (i := 4) rfl) (qsub_c (List.mem_of_getElem? (i := 5) rfl) (qsub_c (List.mem_of_getElem? (i := 6) rfl) (qsub_c (List.mem_of_getElem? (i := 7) rfl) qsub_nil)))))))) (fr_X6_readSum_b110 x1 h E))
def wf_X6_readSum_b13 : List (Nat × Nat) := [(1, 3), (1, 4), (1, 5), (1, 6), (1, 8), (21, 3), (83, 9), (89, 0), (92, 9), (98, 0), (101, 9), (107, 0), (110, 9), (116, 0)]
theorem fr_X6_readSum_b13 (x1 : Int32) (x2 : Int32) (h : qa_M) {z : ((Int32 × Int32 × qa_M) ⊕ (Int32 × qa_M))} (E : f_X6_readSum_b13 x1 x2 h = some z) : qfr wf_X6_readSum_b13 h ((Sum.elim (fun z : Int32 × Int32 × qa_M => z.2.2) (fun z : Int32 × qa_M => z.2)) z) := by
  unfold f_X6_readSum_b13 at E
  have e_h : qfr wf_X6_readSum_b13 h h := qfr_rf
  rcases qif_el E with E | E
  · refine qup_f (Q := fun z => qfr wf_X6_readSum_b13 h ((Sum.elim (fun z : Int32 × Int32 × qa_M => z.2.2) (fun z : Int32 × qa_M => z.2)) z)) E (fun rz E => ?_)
    exact qfr_tr e_h (qfr_sub (qsub_c (List.mem_of_getElem? (i := 6) rfl) (qsub_c (List.mem_of_getElem? (i := 7) rfl) (qsub_c (List.mem_of_getElem? (i := 8) rfl) (qsub_c (List.mem_of_getElem? (i := 9) rfl) (qsub_c (List.mem_of_getElem? (i := 10) rfl) (qsub_c (List.mem_of_getElem? (i := 11) rfl) (qsub_c (List.mem_of_getElem? (i := 12) rfl) (qsub_c (List.mem_of_getElem? (i := 13) rfl) qsub_nil)))))))) (fr_X6_readSum_b110 x1 h E))
  · obtain ⟨c21, h21, E0, E⟩ := qbn_el E
    have e_h21 := qfr_tr e_h (qfr_sub qsub_nil (fr_X6_signCode h E0))
    obtain ⟨v24, -, E⟩ := qbd_el E
    rcases qif_el E with E | E
    · refine qup_f (Q := fun z => qfr wf_X6_readSum_b13 h ((Sum.elim (fun z : Int32 × Int32 × qa_M => z.2.2) (fun z : Int32 × qa_M => z.2)) z)) E (fun rz E => ?_)
      exact qfr_tr e_h21 (qfr_sub (qsub_c (List.mem_of_getElem? (i := 6) rfl) (qsub_c (List.mem_of_getElem? (i := 7) rfl) (qsub_c (List.mem_of_getElem? (i := 8) rfl) (qsub_c (List.mem_of_getElem? (i := 9) rfl) (qsub_c (List.mem_of_getElem? (i := 10) rfl) (qsub_c (List.mem_of_getElem? (i := 11) rfl) (qsub_c (List.mem_of_getElem? (i := 12) rfl) (qsub_c (List.mem_of_getElem? (i := 13) rfl) qsub_nil)))))))) (fr_X6_readSum_b110 x1 h21 E))
    · rcases qif_el E with E | E
      · rcases qif_el E with E | E
        · exact qfr_tr e_h21 (qfr_sub (qsub_c (List.mem_of_getElem? (i := 0) rfl) (qsub_c (List.mem_of_getElem? (i := 1) rfl) (qsub_c (List.mem_of_getElem? (i := 2) rfl) (qsub_c (List.mem_of_getElem? (i := 3) rfl) (qsub_c (List.mem_of_getElem? (i := 4) rfl) (qsub_c (List.mem_of_getElem? (i := 5) rfl) (qsub_c (List.mem_of_getElem? (i := 6) rfl) (qsub_c (List.mem_of_getElem? (i := 7) rfl) (qsub_c (List.mem_of_getElem? (i := 8) rfl) (qsub_c (List.mem_of_getElem? (i := 9) rfl) (qsub_c (List.mem_of_getElem? (i := 10) rfl) (qsub_c (List.mem_of_getElem? (i := 11) rfl) (qsub_c (List.mem_of_getElem? (i := 12) rfl) (qsub_c (List.mem_of_getElem? (i := 13) rfl) qsub_nil)))))))))))))) (fr_X6_readSum_b51 x1 x2 v24 (0 : Int32) h21 E))
        · exact qfr_tr e_h21 (qfr_sub (qsub_c (List.mem_of_getElem? (i := 0) rfl) (qsub_c (List.mem_of_getElem? (i := 1) rfl) (qsub_c (List.mem_of_getElem? (i := 2) rfl) (qsub_c (List.mem_of_getElem? (i := 3) rfl) (qsub_c (List.mem_of_getElem? (i := 4) rfl) (qsub_c (List.mem_of_getElem? (i := 5) rfl) (qsub_c (List.mem_of_getElem? (i := 6) rfl) (qsub_c (List.mem_of_getElem? (i := 7) rfl) (qsub_c (List.mem_of_getElem? (i := 8) rfl) (qsub_c (List.mem_of_getElem? (i := 9) rfl) (qsub_c (List.mem_of_getElem? (i := 10) rfl) (qsub_c (List.mem_of_getElem? (i := 11) rfl) (qsub_c (List.mem_of_getElem? (i := 12) rfl) (qsub_c (List.mem_of_getElem? (i := 13) rfl) qsub_nil)))))))))))))) (fr_X6_readSum_b51 x1 x2 v24 (1 : Int32) h21 E))
      · refine qup_f (Q := fun z => qfr wf_X6_readSum_b13 h ((Sum.elim (fun z : Int32 × Int32 × qa_M => z.2.2) (fun z : Int32 × qa_M => z.2)) z)) E (fun rz E => ?_)
        exact qfr_tr e_h21 (qfr_sub (qsub_c (List.mem_of_getElem? (i := 6) rfl) (qsub_c (List.mem_of_getElem? (i := 7) rfl) (qsub_c (List.mem_of_getElem? (i := 8) rfl) (qsub_c (List.mem_of_getElem? (i := 9) rfl) (qsub_c (List.mem_of_getElem? (i := 10) rfl) (qsub_c (List.mem_of_getElem? (i := 11) rfl) (qsub_c (List.mem_of_getElem? (i := 12) rfl) (qsub_c (List.mem_of_getElem? (i := 13) rfl) qsub_nil)))))))) (fr_X6_readSum_b37 x1 h21 E))
theorem fr_X6_readSum_b13_loop (x1 : Int32) (x2 : Int32) (h : qa_M) {z : (Int32 × qa_M)} (E : f_X6_readSum_b13_loop x1 x2 h = some z) : qfr wf_X6_readSum_b13 h ((fun z : Int32 × qa_M => z.2) z) :=
  qlp_ind (fun sz : Int32 × Int32 × qa_M => qfr wf_X6_readSum_b13 (sz.2.2) ((fun z : Int32 × qa_M => z.2) z)) (fun sz E => fr_X6_readSum_b13 sz.1 sz.2.1 sz.2.2 E) (fun sz sz2 E ih => qfr_tr (fr_X6_readSum_b13 sz.1 sz.2.1 sz.2.2 E) ih) (x1, x2, h) E
def w_X6_readSum : List (Nat × Nat) := [(1, 3), (1, 4), (1, 5), (1, 6), (1, 8), (21, 3), (83, 9), (89, 0), (92, 9), (98, 0), (101, 9), (107, 0), (110, 9), (116, 0)]
theorem fr_X6_readSum (h : qa_M) {z : (Int32 × qa_M)} (E : m_X6_readSum h = some z) : qfr w_X6_readSum h ((fun z : Int32 × qa_M => z.2) z) := by
  unfold m_X6_readSum at E
  have e_h : qfr w_X6_readSum h h := qfr_rf
  obtain ⟨v1, -, E⟩ := qbd_el E
  obtain ⟨c3, h3, E0, E⟩ := qbn_el E
  have e_h3 := qfr_tr e_h (qfr_sub (qsub_c (List.mem_of_getElem? (i := 0) rfl) (qsub_c (List.mem_of_getElem? (i := 1) rfl) (qsub_c (List.mem_of_getElem? (i := 2) rfl) (qsub_c (List.mem_of_getElem? (i := 3) rfl) (qsub_c (List.mem_of_getElem? (i := 4) rfl) (qsub_c (List.mem_of_getElem? (i := 5) rfl) (qsub_c (List.mem_of_getElem? (i := 6) rfl) (qsub_c (List.mem_of_getElem? (i := 7) rfl) (qsub_c (List.mem_of_getElem? (i := 8) rfl) (qsub_c (List.mem_of_getElem? (i := 9) rfl) (qsub_c (List.mem_of_getElem? (i := 10) rfl) (qsub_c (List.mem_of_getElem? (i := 11) rfl) (qsub_c (List.mem_of_getElem? (i := 12) rfl) (qsub_c (List.mem_of_getElem? (i := 13) rfl) qsub_nil)))))))))))))) (fr_X6_readValue h E0))
  rcases qif_el E with E | E
  · exact qsome_f (Q := fun z => qfr w_X6_readSum h ((fun z : Int32 × qa_M => z.2) z)) E e_h3
  · obtain ⟨v12, -, E⟩ := qbd_el E
    exact qfr_tr e_h3 (qfr_sub (qsub_c (List.mem_of_getElem? (i := 0) rfl) (qsub_c (List.mem_of_getElem? (i := 1) rfl) (qsub_c (List.mem_of_getElem? (i := 2) rfl) (qsub_c (List.mem_of_getElem? (i := 3) rfl) (qsub_c (List.mem_of_getElem? (i := 4) rfl) (qsub_c (List.mem_of_getElem? (i := 5) rfl) (qsub_c (List.mem_of_getElem? (i := 6) rfl) (qsub_c (List.mem_of_getElem? (i := 7) rfl) (qsub_c (List.mem_of_getElem? (i := 8) rfl) (qsub_c (List.mem_of_getElem? (i := 9) rfl) (qsub_c (List.mem_of_getElem? (i := 10) rfl) (qsub_c (List.mem_of_getElem? (i := 11) rfl) (qsub_c (List.mem_of_getElem? (i := 12) rfl) (qsub_c (List.mem_of_getElem? (i := 13) rfl) qsub_nil)))))))))))))) (fr_X6_readSum_b13_loop v1 v12 h3 E))
def wf_X6_readComparison_b17 : List (Nat × Nat) := [(1, 8)]
theorem fr_X6_readComparison_b17 (h : qa_M) {z : (Int32 × qa_M)} (E : f_X6_readComparison_b17 h = some z) : qfr wf_X6_readComparison_b17 h ((fun z : Int32 × qa_M => z.2) z) := by
  unfold f_X6_readComparison_b17 at E
  have e_h : qfr wf_X6_readComparison_b17 h h := qfr_rf
  obtain ⟨c22, h22, E0, E⟩ := qbn_el E
  have e_h22 := qfr_tr e_h (qfr_sub (qsub_c (List.mem_of_getElem? (i := 0) rfl) qsub_nil) (fr_X9_fail (0 : Int32) h E0))
  obtain ⟨-, E⟩ := qpr_el E
  exact qsome_f (Q := fun z => qfr wf_X6_readComparison_b17 h ((fun z : Int32 × qa_M => z.2) z)) E e_h22
def w_X6_readComparison : List (Nat × Nat) := [(1, 3), (1, 4), (1, 5), (1, 6), (1, 8), (21, 3), (21, 4)]
theorem fr_X6_readComparison (h : qa_M) {z : (Int32 × qa_M)} (E : m_X6_readComparison h = some z) : qfr w_X6_readComparison h ((fun z : Int32 × qa_M => z.2) z) := by
  unfold m_X6_readComparison at E
  have e_h : qfr w_X6_readComparison h h := qfr_rf
  obtain ⟨c1, h1, E0, E⟩ := qbn_el E
  have e_h1 := qfr_tr e_h (qfr_sub qsub_nil (fr_X6_signCode h E0))
  obtain ⟨v4, -, E⟩ := qbd_el E
  rcases qif_el E with E | E
  · exact qfr_tr e_h1 (qfr_sub (qsub_c (List.mem_of_getElem? (i := 4) rfl) qsub_nil) (fr_X6_readComparison_b17 h1 E))
  · rcases qif_el E with E | E
    · obtain ⟨c27, h27, E0, E⟩ := qbn_el E
      have e_h27 := qfr_tr e_h1 (qfr_sub (qsub_c (List.mem_of_getElem? (i := 4) rfl) (qsub_c (List.mem_of_getElem? (i := 5) rfl) qsub_nil)) (fr_X6_isRoomForPart h1 E0))
      rcases qif_el E with E | E
      · exact qsome_f (Q := fun z => qfr w_X6_readComparison h ((fun z : Int32 × qa_M => z.2) z)) E e_h27
      · obtain ⟨h37, q_h37, E⟩ := qbd_el E
        have e_h37 := qfr_Ik q_h37 (List.mem_of_getElem? (i := 6) rfl) e_h27
        obtain ⟨h44, E0, E⟩ := qbv_el E
        have e_h44 := qfr_tr e_h37 (qfr_sub (qsub_c (List.mem_of_getElem? (i := 0) rfl) (qsub_c (List.mem_of_getElem? (i := 1) rfl) (qsub_c (List.mem_of_getElem? (i := 2) rfl) (qsub_c (List.mem_of_getElem? (i := 3) rfl) qsub_nil)))) (fr_X9_scan h37 E0))
        exact qsome_f (Q := fun z => qfr w_X6_readComparison h ((fun z : Int32 × qa_M => z.2) z)) E e_h44
    · exact qfr_tr e_h1 (qfr_sub (qsub_c (List.mem_of_getElem? (i := 4) rfl) qsub_nil) (fr_X6_readComparison_b17 h1 E))
def w_X6_endComparison : List (Nat × Nat) := [(83, 9), (89, 0), (92, 9), (98, 0), (101, 9), (107, 0), (110, 9), (116, 0)]
theorem fr_X6_endComparison (h : qa_M) {z : (Int32 × qa_M)} (E : m_X6_endComparison h = some z) : qfr w_X6_endComparison h ((fun z : Int32 × qa_M => z.2) z) := by
  unfold m_X6_endComparison at E
  have e_h : qfr w_X6_endComparison h h := qfr_rf
  obtain ⟨a1, -, E⟩ := qnn_el E
  obtain ⟨pz, E⟩ := qpr_el E
  rcases pz with rfl | rfl | rfl | rfl
  · obtain ⟨h8, E0, E⟩ := qbv_el E
    have e_h8 := qfr_tr e_h (qfr_sub (qsub_c (List.mem_of_getElem? (i := 1) rfl) (qsub_c (List.mem_of_getElem? (i := 0) rfl) qsub_nil)) (fr_X5_emit 83 (h.1 21 3) h E0))
    exact qsome_f (Q := fun z => qfr w_X6_endComparison h ((fun z : Int32 × qa_M => z.2) z)) E e_h8
  · obtain ⟨h8, E0, E⟩ := qbv_el E
    have e_h8 := qfr_tr e_h (qfr_sub (qsub_c (List.mem_of_getElem? (i := 3) rfl) (qsub_c (List.mem_of_getElem? (i := 2) rfl) qsub_nil)) (fr_X5_emit 92 (h.1 21 3) h E0))
    exact qsome_f (Q := fun z => qfr w_X6_endComparison h ((fun z : Int32 × qa_M => z.2) z)) E e_h8
  · obtain ⟨h8, E0, E⟩ := qbv_el E
    have e_h8 := qfr_tr e_h (qfr_sub (qsub_c (List.mem_of_getElem? (i := 5) rfl) (qsub_c (List.mem_of_getElem? (i := 4) rfl) qsub_nil)) (fr_X5_emit 101 (h.1 21 3) h E0))
    exact qsome_f (Q := fun z => qfr w_X6_endComparison h ((fun z : Int32 × qa_M => z.2) z)) E e_h8
  · obtain ⟨h8, E0, E⟩ := qbv_el E
    have e_h8 := qfr_tr e_h (qfr_sub (qsub_c (List.mem_of_getElem? (i := 7) rfl) (qsub_c (List.mem_of_getElem? (i := 6) rfl) qsub_nil)) (fr_X5_emit 110 (h.1 21 3) h E0))
    exact qsome_f (Q := fun z => qfr w_X6_endComparison h ((fun z : Int32 × qa_M => z.2) z)) E e_h8
def w_X11_stands : List (Nat × Nat) := [(0, 14), (3, 4)]
theorem fr_X11_stands (x1 : Int32) (h : qa_M) {z : (Int32 × qa_M)} (E : m_X11_stands x1 h = some z) : qfr w_X11_stands h ((fun z : Int32 × qa_M => z.2) z) := by
  unfold m_X11_stands at E
  have e_h : qfr w_X11_stands h h := qfr_rf
  rcases qif_el E with E | E
  · exact qsome_f (Q := fun z => qfr w_X11_stands h ((fun z : Int32 × qa_M => z.2) z)) E e_h
  · rcases qif_el E with E | E
    · obtain ⟨v23, -, E⟩ := qbd_el E
      obtain ⟨h29, q_h29, E⟩ := qbd_el E
      have e_h29 := qfr_Ik q_h29 (List.mem_of_getElem? (i := 1) rfl) e_h
      obtain ⟨h39, q_h39, E⟩ := qbd_el E
      have e_h39 := qfr_Ik q_h39 (List.mem_of_getElem? (i := 0) rfl) e_h29
      exact qsome_f (Q := fun z => qfr w_X11_stands h ((fun z : Int32 × qa_M => z.2) z)) E e_h39
    · exact qsome_f (Q := fun z => qfr w_X11_stands h ((fun z : Int32 × qa_M => z.2) z)) E e_h
theorem fr_X11_within (x0 : Int32) (x1 : Int32) (h : qa_M) {z : (Int32 × qa_M)} (E : m_X11_within x0 x1 h = some z) : qfr wz h ((fun z : Int32 × qa_M => z.2) z) := by
  unfold m_X11_within at E
  have e_h : qfr wz h h := qfr_rf
  rcases qif_el E with E | E
  · exact qsome_f (Q := fun z => qfr wz h ((fun z : Int32 × qa_M => z.2) z)) E e_h
  · rcases qif_el E with E | E
    · exact qsome_f (Q := fun z => qfr wz h ((fun z : Int32 × qa_M => z.2) z)) E e_h
    · exact qsome_f (Q := fun z => qfr wz h ((fun z : Int32 × qa_M => z.2) z)) E e_h
def w_X8_write : List (Nat × Nat) := [(3, 2), (10, 0)]
theorem fr_X8_write (x1 : Int32) (x2 : Int32) (x3 : Int32) (x4 : Int32) (x5 : Int32) (h : qa_M) {z : qa_M} (E : m_X8_write x1 x2 x3 x4 x5 h = some z) : qfr w_X8_write h ((fun z : qa_M => z) z) := by
  unfold m_X8_write at E
  have e_h : qfr w_X8_write h h := qfr_rf
  obtain ⟨v6, -, E⟩ := qbd_el E
  obtain ⟨-, E⟩ := qck_el E
  obtain ⟨h15, q_h15, E⟩ := qbd_el E
  have e_h15 := qfr_I0 q_h15 (List.mem_of_getElem? (i := 1) rfl) e_h
  obtain ⟨-, E⟩ := qck_el E
  obtain ⟨h25, q_h25, E⟩ := qbd_el E
  have e_h25 := qfr_I0 q_h25 (List.mem_of_getElem? (i := 1) rfl) e_h15
  obtain ⟨-, E⟩ := qck_el E
  obtain ⟨h35, q_h35, E⟩ := qbd_el E
  have e_h35 := qfr_I0 q_h35 (List.mem_of_getElem? (i := 1) rfl) e_h25
  obtain ⟨-, E⟩ := qck_el E
  obtain ⟨h46, q_h46, E⟩ := qbd_el E
  have e_h46 := qfr_I0 q_h46 (List.mem_of_getElem? (i := 1) rfl) e_h35
  obtain ⟨-, E⟩ := qck_el E
  obtain ⟨h57, q_h57, E⟩ := qbd_el E
  have e_h57 := qfr_I0 q_h57 (List.mem_of_getElem? (i := 1) rfl) e_h46
  obtain ⟨h65, q_h65, E⟩ := qbd_el E
  have e_h65 := qfr_Ik q_h65 (List.mem_of_getElem? (i := 0) rfl) e_h57
  exact qsome_f (Q := fun z => qfr w_X8_write h ((fun z : qa_M => z) z)) E e_h65
def wf_X11_note_b71 : List (Nat × Nat) := [(0, 14), (3, 2), (10, 0)]
theorem fr_X11_note_b71 (x1 : Int32) (x2 : Int32) (x3 : Int32) (x4 : Int32) (x5 : Int32) (s0 : Int32) (s1 : Int32) (h : qa_M) {z : (Int32 × qa_M)} (E : f_X11_note_b71 x1 x2 x3 x4 x5 s0 s1 h = some z) : qfr wf_X11_note_b71 h ((fun z : Int32 × qa_M => z.2) z) := by
  unfold f_X11_note_b71 at E
  have e_h : qfr wf_X11_note_b71 h h := qfr_rf
  obtain ⟨c71, h71, E0, E⟩ := qbn_el E
  have e_h71 := qfr_tr e_h (qfr_sub qsub_nil (fr_X11_within s0 s1 h E0))
  rcases qif_el E with E | E
  · exact qsome_f (Q := fun z => qfr wf_X11_note_b71 h ((fun z : Int32 × qa_M => z.2) z)) E e_h71
  · obtain ⟨c89, h89, E0, E⟩ := qbn_el E
    have e_h89 := qfr_tr e_h71 (qfr_sub qsub_nil (fr_X11_within x4 (h71.1 4 4) h71 E0))
    rcases qif_el E with E | E
    · exact qsome_f (Q := fun z => qfr wf_X11_note_b71 h ((fun z : Int32 × qa_M => z.2) z)) E e_h89
    · obtain ⟨h108, E0, E⟩ := qbv_el E
      have e_h108 := qfr_tr e_h89 (qfr_sub (qsub_c (List.mem_of_getElem? (i := 1) rfl) (qsub_c (List.mem_of_getElem? (i := 2) rfl) qsub_nil)) (fr_X8_write x1 x2 x3 x4 x5 h89 E0))
      obtain ⟨h118, q_h118, E⟩ := qbd_el E
      have e_h118 := qfr_Ik q_h118 (List.mem_of_getElem? (i := 0) rfl) e_h108
      exact qsome_f (Q := fun z => qfr wf_X11_note_b71 h ((fun z : Int32 × qa_M => z.2) z)) E e_h118
def w_X11_note : List (Nat × Nat) := [(0, 14), (3, 2), (10, 0)]
theorem fr_X11_note (x1 : Int32) (x2 : Int32) (x3 : Int32) (x4 : Int32) (x5 : Int32) (h : qa_M) {z : (Int32 × qa_M)} (E : m_X11_note x1 x2 x3 x4 x5 h = some z) : qfr w_X11_note h ((fun z : Int32 × qa_M => z.2) z) := by
  unfold m_X11_note at E
  have e_h : qfr w_X11_note h h := qfr_rf
  rcases qif_el E with E | E
  · exact qsome_f (Q := fun z => qfr w_X11_note h ((fun z : Int32 × qa_M => z.2) z)) E e_h
  · obtain ⟨c15, h15, E0, E⟩ := qbn_el E
    have e_h15 := qfr_tr e_h (qfr_sub qsub_nil (fr_X11_within x1 (6 : Int32) h E0))
    rcases qif_el E with E | E
    · exact qsome_f (Q := fun z => qfr w_X11_note h ((fun z : Int32 × qa_M => z.2) z)) E e_h15
    · obtain ⟨c23, h23, E0, E⟩ := qbn_el E
      have e_h23 := qfr_tr e_h15 (qfr_sub qsub_nil (fr_X11_within x2 (2 : Int32) h15 E0))
      rcases qif_el E with E | E
      · exact qsome_f (Q := fun z => qfr w_X11_note h ((fun z : Int32 × qa_M => z.2) z)) E e_h23
      · rcases qif_el E with E | E
        · exact qsome_f (Q := fun z => qfr w_X11_note h ((fun z : Int32 × qa_M => z.2) z)) E e_h23
        · rcases qif_el E with E | E
          · rcases qif_el E with E | E
            · exact qfr_tr e_h23 (qfr_sub (qsub_c (List.mem_of_getElem? (i := 0) rfl) (qsub_c (List.mem_of_getElem? (i := 1) rfl) (qsub_c (List.mem_of_getElem? (i := 2) rfl) qsub_nil))) (fr_X11_note_b71 x1 x2 x3 x4 x5 x3 (h23.1 4 2) h23 E))
            · exact qfr_tr e_h23 (qfr_sub (qsub_c (List.mem_of_getElem? (i := 0) rfl) (qsub_c (List.mem_of_getElem? (i := 1) rfl) (qsub_c (List.mem_of_getElem? (i := 2) rfl) qsub_nil))) (fr_X11_note_b71 x1 x2 x3 x4 x5 x3 (h23.1 4 3) h23 E))
          · exact qsome_f (Q := fun z => qfr w_X11_note h ((fun z : Int32 × qa_M => z.2) z)) E e_h23
theorem fr_X3_holds (x1 : Int32) (x2 : Int32) (h : qa_M) {z : (Int32 × qa_M)} (E : m_X3_holds x1 x2 h = some z) : qfr wz h ((fun z : Int32 × qa_M => z.2) z) := by
  unfold m_X3_holds at E
  have e_h : qfr wz h h := qfr_rf
  obtain ⟨c5, h5, E0, E⟩ := qbn_el E
  have e_h5 := qfr_tr e_h (qfr_sub qsub_nil (fr_X11_within x1 (h.1 4 0) h E0))
  rcases qif_el E with E | E
  · exact qsome_f (Q := fun z => qfr wz h ((fun z : Int32 × qa_M => z.2) z)) E e_h5
  · obtain ⟨c16, h16, E0, E⟩ := qbn_el E
    have e_h16 := qfr_tr e_h5 (qfr_sub qsub_nil (fr_X11_within x2 (h5.1 4 1) h5 E0))
    rcases qif_el E with E | E
    · exact qsome_f (Q := fun z => qfr wz h ((fun z : Int32 × qa_M => z.2) z)) E e_h16
    · exact qsome_f (Q := fun z => qfr wz h ((fun z : Int32 × qa_M => z.2) z)) E e_h16
theorem fr_X3_hillsThatSee_b4 (x1 : Int32) (x2 : Int32) (x3 : Int32) (h : qa_M) {z : ((Int32 × Int32 × Int32 × qa_M) ⊕ (Int32 × qa_M))} (E : f_X3_hillsThatSee_b4 x1 x2 x3 h = some z) : qfr wz h ((Sum.elim (fun z : Int32 × Int32 × Int32 × qa_M => z.2.2.2) (fun z : Int32 × qa_M => z.2)) z) := by
  unfold f_X3_hillsThatSee_b4 at E
  have e_h : qfr wz h h := qfr_rf
  rcases qif_el E with E | E
  · refine qup_f (Q := fun z => qfr wz h ((Sum.elim (fun z : Int32 × Int32 × Int32 × qa_M => z.2.2.2) (fun z : Int32 × qa_M => z.2)) z)) E (fun rz E => ?_)
    exact qsome_f (Q := fun z => qfr wz h ((fun z : Int32 × qa_M => z.2) z)) E e_h
  · obtain ⟨-, E⟩ := qck_el E
    obtain ⟨v25, -, E⟩ := qbd_el E
    obtain ⟨v26, -, E⟩ := qbd_el E
    exact qsome_f (Q := fun z => qfr wz h ((Sum.elim (fun z : Int32 × Int32 × Int32 × qa_M => z.2.2.2) (fun z : Int32 × qa_M => z.2)) z)) E e_h
theorem fr_X3_hillsThatSee_b4_loop (x1 : Int32) (x2 : Int32) (x3 : Int32) (h : qa_M) {z : (Int32 × qa_M)} (E : f_X3_hillsThatSee_b4_loop x1 x2 x3 h = some z) : qfr wz h ((fun z : Int32 × qa_M => z.2) z) :=
  qlp_ind (fun sz : Int32 × Int32 × Int32 × qa_M => qfr wz (sz.2.2.2) ((fun z : Int32 × qa_M => z.2) z)) (fun sz E => fr_X3_hillsThatSee_b4 sz.1 sz.2.1 sz.2.2.1 sz.2.2.2 E) (fun sz sz2 E ih => qfr_tr (fr_X3_hillsThatSee_b4 sz.1 sz.2.1 sz.2.2.1 sz.2.2.2 E) ih) (x1, x2, x3, h) E
theorem fr_X3_hillsThatSee (x1 : Int32) (h : qa_M) {z : (Int32 × qa_M)} (E : m_X3_hillsThatSee x1 h = some z) : qfr wz h ((fun z : Int32 × qa_M => z.2) z) := by
  unfold m_X3_hillsThatSee at E
  have e_h : qfr wz h h := qfr_rf
  obtain ⟨v1, -, E⟩ := qbd_el E
  obtain ⟨v3, -, E⟩ := qbd_el E
  exact qfr_tr e_h (qfr_sub qsub_nil (fr_X3_hillsThatSee_b4_loop x1 v1 v3 h E))
theorem fr_X3_roadsOf_b4 (x1 : Int32) (x2 : Int32) (x3 : Int32) (h : qa_M) {z : ((Int32 × Int32 × Int32 × qa_M) ⊕ (Int32 × qa_M))} (E : f_X3_roadsOf_b4 x1 x2 x3 h = some z) : qfr wz h ((Sum.elim (fun z : Int32 × Int32 × Int32 × qa_M => z.2.2.2) (fun z : Int32 × qa_M => z.2)) z) := by
  unfold f_X3_roadsOf_b4 at E
  have e_h : qfr wz h h := qfr_rf
  rcases qif_el E with E | E
  · refine qup_f (Q := fun z => qfr wz h ((Sum.elim (fun z : Int32 × Int32 × Int32 × qa_M => z.2.2.2) (fun z : Int32 × qa_M => z.2)) z)) E (fun rz E => ?_)
    exact qsome_f (Q := fun z => qfr wz h ((fun z : Int32 × qa_M => z.2) z)) E e_h
  · obtain ⟨-, E⟩ := qck_el E
    obtain ⟨v25, -, E⟩ := qbd_el E
    obtain ⟨v26, -, E⟩ := qbd_el E
    exact qsome_f (Q := fun z => qfr wz h ((Sum.elim (fun z : Int32 × Int32 × Int32 × qa_M => z.2.2.2) (fun z : Int32 × qa_M => z.2)) z)) E e_h
theorem fr_X3_roadsOf_b4_loop (x1 : Int32) (x2 : Int32) (x3 : Int32) (h : qa_M) {z : (Int32 × qa_M)} (E : f_X3_roadsOf_b4_loop x1 x2 x3 h = some z) : qfr wz h ((fun z : Int32 × qa_M => z.2) z) :=
  qlp_ind (fun sz : Int32 × Int32 × Int32 × qa_M => qfr wz (sz.2.2.2) ((fun z : Int32 × qa_M => z.2) z)) (fun sz E => fr_X3_roadsOf_b4 sz.1 sz.2.1 sz.2.2.1 sz.2.2.2 E) (fun sz sz2 E ih => qfr_tr (fr_X3_roadsOf_b4 sz.1 sz.2.1 sz.2.2.1 sz.2.2.2 E) ih) (x1, x2, x3, h) E
theorem fr_X3_roadsOf (x1 : Int32) (h : qa_M) {z : (Int32 × qa_M)} (E : m_X3_roadsOf x1 h = some z) : qfr wz h ((fun z : Int32 × qa_M => z.2) z) := by
  unfold m_X3_roadsOf at E
  have e_h : qfr wz h h := qfr_rf
  obtain ⟨v1, -, E⟩ := qbd_el E
  obtain ⟨v3, -, E⟩ := qbd_el E
  exact qfr_tr e_h (qfr_sub qsub_nil (fr_X3_roadsOf_b4_loop x1 v1 v3 h E))
theorem fr_X2_grow (x0 : Int64) (h : qa_M) {z : (Int64 × qa_M)} (E : m_X2_grow x0 h = some z) : qfr wz h ((fun z : Int64 × qa_M => z.2) z) := by
  unfold m_X2_grow at E
  have e_h : qfr wz h h := qfr_rf
  obtain ⟨v17, -, E⟩ := qbd_el E
  exact qsome_f (Q := fun z => qfr wz h ((fun z : Int64 × qa_M => z.2) z)) E e_h
theorem fr_J13_bitCount_95d88 (x0 : Int64) (h : qa_M) {z : (Int32 × qa_M)} (E : m_J13_bitCount_95d88 x0 h = some z) : qfr wz h ((fun z : Int32 × qa_M => z.2) z) := by
  unfold m_J13_bitCount_95d88 at E
  have e_h : qfr wz h h := qfr_rf
  obtain ⟨v9, -, E⟩ := qbd_el E
  obtain ⟨v23, -, E⟩ := qbd_el E
  obtain ⟨v33, -, E⟩ := qbd_el E
  obtain ⟨v40, -, E⟩ := qbd_el E
  obtain ⟨v47, -, E⟩ := qbd_el E
  obtain ⟨v54, -, E⟩ := qbd_el E
  exact qsome_f (Q := fun z => qfr wz h ((fun z : Int32 × qa_M => z.2) z)) E e_h
theorem fr_X3_woodsBeside (x1 : Int32) (h : qa_M) {z : (Int32 × qa_M)} (E : m_X3_woodsBeside x1 h = some z) : qfr wz h ((fun z : Int32 × qa_M => z.2) z) := by
  unfold m_X3_woodsBeside at E
  have e_h : qfr wz h h := qfr_rf
  obtain ⟨v3, -, E⟩ := qbd_el E
  obtain ⟨c5, h5, E0, E⟩ := qbn_el E
  have e_h5 := qfr_tr e_h (qfr_sub qsub_nil (fr_X2_grow v3 h E0))
  obtain ⟨c19, h19, E0, E⟩ := qbn_el E
  have e_h19 := qfr_tr e_h5 (qfr_sub qsub_nil (fr_J13_bitCount_95d88 ((c5 &&& (v3 ^^^ (-1 : Int64))) &&& (h5.2.1 4 7)) h5 E0))
  exact qsome_f (Q := fun z => qfr wz h ((fun z : Int32 × qa_M => z.2) z)) E e_h19
def wf_J7_fill_d0a16_b6 : List (Nat × Nat) := [(24, 0)]
theorem fr_J7_fill_d0a16_b6 (x1 : Int64) (x3 : Int32) (x4 : Int32) (h : qa_M) {z : ((Int64 × Int32 × Int32 × qa_M) ⊕ qa_M)} (E : f_J7_fill_d0a16_b6 x1 x3 x4 h = some z) : qfr wf_J7_fill_d0a16_b6 h ((Sum.elim (fun z : Int64 × Int32 × Int32 × qa_M => z.2.2.2) (fun z : qa_M => z)) z) := by
  unfold f_J7_fill_d0a16_b6 at E
  have e_h : qfr wf_J7_fill_d0a16_b6 h h := qfr_rf
  rcases qif_el E with E | E
  · refine qup_f (Q := fun z => qfr wf_J7_fill_d0a16_b6 h ((Sum.elim (fun z : Int64 × Int32 × Int32 × qa_M => z.2.2.2) (fun z : qa_M => z)) z)) E (fun rz E => ?_)
    exact qsome_f (Q := fun z => qfr wf_J7_fill_d0a16_b6 h ((fun z : qa_M => z) z)) E e_h
  · obtain ⟨-, E⟩ := qck_el E
    obtain ⟨h15, q_h15, E⟩ := qbd_el E
    have e_h15 := qfr_J0 q_h15 (List.mem_of_getElem? (i := 0) rfl) e_h
    obtain ⟨v16, -, E⟩ := qbd_el E
    exact qsome_f (Q := fun z => qfr wf_J7_fill_d0a16_b6 h ((Sum.elim (fun z : Int64 × Int32 × Int32 × qa_M => z.2.2.2) (fun z : qa_M => z)) z)) E e_h15
theorem fr_J7_fill_d0a16_b6_loop (x1 : Int64) (x3 : Int32) (x4 : Int32) (h : qa_M) {z : qa_M} (E : f_J7_fill_d0a16_b6_loop x1 x3 x4 h = some z) : qfr wf_J7_fill_d0a16_b6 h ((fun z : qa_M => z) z) :=
  qlp_ind (fun sz : Int64 × Int32 × Int32 × qa_M => qfr wf_J7_fill_d0a16_b6 (sz.2.2.2) ((fun z : qa_M => z) z)) (fun sz E => fr_J7_fill_d0a16_b6 sz.1 sz.2.1 sz.2.2.1 sz.2.2.2 E) (fun sz sz2 E ih => qfr_tr (fr_J7_fill_d0a16_b6 sz.1 sz.2.1 sz.2.2.1 sz.2.2.2 E) ih) (x1, x3, x4, h) E
def w_J7_fill_d0a16 : List (Nat × Nat) := [(24, 0)]
theorem fr_J7_fill_d0a16 (x1 : Int64) (h : qa_M) {z : qa_M} (E : m_J7_fill_d0a16 x1 h = some z) : qfr w_J7_fill_d0a16 h ((fun z : qa_M => z) z) := by
  unfold m_J7_fill_d0a16 at E
  have e_h : qfr w_J7_fill_d0a16 h h := qfr_rf
  obtain ⟨v1, -, E⟩ := qbd_el E
  obtain ⟨v4, -, E⟩ := qbd_el E
  exact qfr_tr e_h (qfr_sub (qsub_c (List.mem_of_getElem? (i := 0) rfl) qsub_nil) (fr_J7_fill_d0a16_b6_loop x1 v1 v4 h E))
def wf_J7_fill_53178_b5 (a0 : Nat) : List (Nat × Nat) := [(a0, 0)]
theorem fr_J7_fill_53178_b5 (a0 : Nat) (x1 : Int32) (x2 : Int32) (x3 : Int32) (h : qa_M) {z : ((Int32 × Int32 × Int32 × qa_M) ⊕ qa_M)} (E : f_J7_fill_53178_b5 a0 x1 x2 x3 h = some z) : qfr (wf_J7_fill_53178_b5 a0) h ((Sum.elim (fun z : Int32 × Int32 × Int32 × qa_M => z.2.2.2) (fun z : qa_M => z)) z) := by
  unfold f_J7_fill_53178_b5 at E
  have e_h : qfr (wf_J7_fill_53178_b5 a0) h h := qfr_rf
  rcases qif_el E with E | E
  · refine qup_f (Q := fun z => qfr (wf_J7_fill_53178_b5 a0) h ((Sum.elim (fun z : Int32 × Int32 × Int32 × qa_M => z.2.2.2) (fun z : qa_M => z)) z)) E (fun rz E => ?_)
    exact qsome_f (Q := fun z => qfr (wf_J7_fill_53178_b5 a0) h ((fun z : qa_M => z) z)) E e_h
  · obtain ⟨n13, -, E⟩ := qal_el E
    obtain ⟨-, E⟩ := qck_el E
    obtain ⟨h13, q_h13, E⟩ := qbd_el E
    have e_h13 := qfr_I0 q_h13 (List.mem_of_getElem? (i := 0) rfl) e_h
    obtain ⟨v14, -, E⟩ := qbd_el E
    exact qsome_f (Q := fun z => qfr (wf_J7_fill_53178_b5 a0) h ((Sum.elim (fun z : Int32 × Int32 × Int32 × qa_M => z.2.2.2) (fun z : qa_M => z)) z)) E e_h13
theorem fr_J7_fill_53178_b5_loop (a0 : Nat) (x1 : Int32) (x2 : Int32) (x3 : Int32) (h : qa_M) {z : qa_M} (E : f_J7_fill_53178_b5_loop a0 x1 x2 x3 h = some z) : qfr (wf_J7_fill_53178_b5 a0) h ((fun z : qa_M => z) z) :=
  qlp_ind (fun sz : Int32 × Int32 × Int32 × qa_M => qfr (wf_J7_fill_53178_b5 a0) (sz.2.2.2) ((fun z : qa_M => z) z)) (fun sz E => fr_J7_fill_53178_b5 a0 sz.1 sz.2.1 sz.2.2.1 sz.2.2.2 E) (fun sz sz2 E ih => qfr_tr (fr_J7_fill_53178_b5 a0 sz.1 sz.2.1 sz.2.2.1 sz.2.2.2 E) ih) (x1, x2, x3, h) E
def w_J7_fill_53178 (a0 : Nat) : List (Nat × Nat) := [(a0, 0)]
theorem fr_J7_fill_53178 (a0 : Nat) (x1 : Int32) (h : qa_M) {z : qa_M} (E : m_J7_fill_53178 a0 x1 h = some z) : qfr (w_J7_fill_53178 a0) h ((fun z : qa_M => z) z) := by
  unfold m_J7_fill_53178 at E
  have e_h : qfr (w_J7_fill_53178 a0) h h := qfr_rf
  obtain ⟨v1, -, E⟩ := qbd_el E
  obtain ⟨n3, -, E⟩ := qal_el E
  obtain ⟨v4, -, E⟩ := qbd_el E
  exact qfr_tr e_h (qfr_sub (qsub_c (List.mem_of_getElem? (i := 0) rfl) qsub_nil) (fr_J7_fill_53178_b5_loop a0 x1 v1 v4 h E))
theorem fr_X3_toEdge (x1 : Int32) (h : qa_M) {z : (Int32 × qa_M)} (E : m_X3_toEdge x1 h = some z) : qfr wz h ((fun z : Int32 × qa_M => z.2) z) := by
  unfold m_X3_toEdge at E
  have e_h : qfr wz h h := qfr_rf
  obtain ⟨v4, -, E⟩ := qbd_el E
  obtain ⟨v9, -, E⟩ := qbd_el E
  exact qsome_f (Q := fun z => qfr wz h ((fun z : Int32 × qa_M => z.2) z)) E e_h
def wf_X5_learn_b61 (a0 : Nat) (s0 : Nat) : List (Nat × Nat) := [((a0 + 8), 0), (s0, 0)]
theorem fr_X5_learn_b61 (a0 : Nat) (x2 : Int32) (s0 : Nat) (s1 : Int32) (s2 : Int32) (h : qa_M) {z : qa_M} (E : f_X5_learn_b61 a0 x2 s0 s1 s2 h = some z) : qfr (wf_X5_learn_b61 a0 s0) h ((fun z : qa_M => z) z) := by
  unfold f_X5_learn_b61 at E
  have e_h : qfr (wf_X5_learn_b61 a0 s0) h h := qfr_rf
  obtain ⟨n61, -, E⟩ := qal_el E
  obtain ⟨-, E⟩ := qck_el E
  obtain ⟨h61, q_h61, E⟩ := qbd_el E
  have e_h61 := qfr_I0 q_h61 (List.mem_of_getElem? (i := 1) rfl) e_h
  obtain ⟨c69, h69, E0, E⟩ := qbn_el E
  have e_h69 := qfr_tr e_h61 (qfr_sub qsub_nil (fr_X3_roadsOf x2 h61 E0))
  obtain ⟨-, E⟩ := qck_el E
  obtain ⟨h72, q_h72, E⟩ := qbd_el E
  have e_h72 := qfr_I0 q_h72 (List.mem_of_getElem? (i := 0) rfl) e_h69
  obtain ⟨c81, h81, E0, E⟩ := qbn_el E
  have e_h81 := qfr_tr e_h72 (qfr_sub qsub_nil (fr_X3_toEdge x2 h72 E0))
  obtain ⟨-, E⟩ := qck_el E
  obtain ⟨h84, q_h84, E⟩ := qbd_el E
  have e_h84 := qfr_I0 q_h84 (List.mem_of_getElem? (i := 0) rfl) e_h81
  exact qsome_f (Q := fun z => qfr (wf_X5_learn_b61 a0 s0) h ((fun z : qa_M => z) z)) E e_h84
def w_X5_learn (a0 : Nat) : List (Nat × Nat) := [((a0 + 8), 0)]
theorem fr_X5_learn (a0 : Nat) (x2 : Int32) (h : qa_M) {z : qa_M} (E : m_X5_learn a0 x2 h = some z) : qfr (w_X5_learn a0) h ((fun z : qa_M => z) z) := by
  unfold m_X5_learn at E
  have e_h : qfr (w_X5_learn a0) h h := qfr_rf
  obtain ⟨-, E⟩ := qck_el E
  obtain ⟨h9, q_h9, E⟩ := qbd_el E
  have e_h9 := qfr_I0 q_h9 (List.mem_of_getElem? (i := 0) rfl) e_h
  obtain ⟨-, E⟩ := qck_el E
  obtain ⟨h19, q_h19, E⟩ := qbd_el E
  have e_h19 := qfr_I0 q_h19 (List.mem_of_getElem? (i := 0) rfl) e_h9
  obtain ⟨c27, h27, E0, E⟩ := qbn_el E
  have e_h27 := qfr_tr e_h19 (qfr_sub qsub_nil (fr_X3_woodsBeside x2 h19 E0))
  obtain ⟨-, E⟩ := qck_el E
  obtain ⟨h30, q_h30, E⟩ := qbd_el E
  have e_h30 := qfr_I0 q_h30 (List.mem_of_getElem? (i := 0) rfl) e_h27
  obtain ⟨c38, h38, E0, E⟩ := qbn_el E
  have e_h38 := qfr_tr e_h30 (qfr_sub qsub_nil (fr_X3_hillsThatSee x2 h30 E0))
  obtain ⟨-, E⟩ := qck_el E
  obtain ⟨h41, q_h41, E⟩ := qbd_el E
  have e_h41 := qfr_I0 q_h41 (List.mem_of_getElem? (i := 0) rfl) e_h38
  obtain ⟨c49, h49, E0, E⟩ := qbn_el E
  have e_h49 := qfr_tr e_h41 (qfr_sub qsub_nil (fr_X3_hillOn 4 x2 h41 E0))
  rcases qif_el E with E | E
  · exact qfr_tr e_h49 (qfr_sub (qsub_c (List.mem_of_getElem? (i := 0) rfl) (qsub_c (List.mem_of_getElem? (i := 0) rfl) qsub_nil)) (fr_X5_learn_b61 a0 x2 (a0 + 8) (4 : Int32) (0 : Int32) h49 E))
  · exact qfr_tr e_h49 (qfr_sub (qsub_c (List.mem_of_getElem? (i := 0) rfl) (qsub_c (List.mem_of_getElem? (i := 0) rfl) qsub_nil)) (fr_X5_learn_b61 a0 x2 (a0 + 8) (4 : Int32) (1 : Int32) h49 E))
theorem fr_X5_compare (x0 : Int32) (x1 : Int64) (x3 : Int64) (h : qa_M) {z : (Int32 × qa_M)} (E : m_X5_compare x0 x1 x3 h = some z) : qfr wz h ((fun z : Int32 × qa_M => z.2) z) := by
  unfold m_X5_compare at E
  have e_h : qfr wz h h := qfr_rf
  rcases qif_el E with E | E
  · rcases qif_el E with E | E
    · exact qsome_f (Q := fun z => qfr wz h ((fun z : Int32 × qa_M => z.2) z)) E e_h
    · exact qsome_f (Q := fun z => qfr wz h ((fun z : Int32 × qa_M => z.2) z)) E e_h
  · rcases qif_el E with E | E
    · rcases qif_el E with E | E
      · exact qsome_f (Q := fun z => qfr wz h ((fun z : Int32 × qa_M => z.2) z)) E e_h
      · exact qsome_f (Q := fun z => qfr wz h ((fun z : Int32 × qa_M => z.2) z)) E e_h
    · rcases qif_el E with E | E
      · rcases qif_el E with E | E
        · exact qsome_f (Q := fun z => qfr wz h ((fun z : Int32 × qa_M => z.2) z)) E e_h
        · exact qsome_f (Q := fun z => qfr wz h ((fun z : Int32 × qa_M => z.2) z)) E e_h
      · rcases qif_el E with E | E
        · rcases qif_el E with E | E
          · exact qsome_f (Q := fun z => qfr wz h ((fun z : Int32 × qa_M => z.2) z)) E e_h
          · exact qsome_f (Q := fun z => qfr wz h ((fun z : Int32 × qa_M => z.2) z)) E e_h
        · rcases qif_el E with E | E
          · exact qsome_f (Q := fun z => qfr wz h ((fun z : Int32 × qa_M => z.2) z)) E e_h
          · exact qsome_f (Q := fun z => qfr wz h ((fun z : Int32 × qa_M => z.2) z)) E e_h
theorem fr_X5_join_b94 (x0 : Int32) (x1 : Int64) (x3 : Int64) (h : qa_M) {z : (Int64 × qa_M)} (E : f_X5_join_b94 x0 x1 x3 h = some z) : qfr wz h ((fun z : Int64 × qa_M => z.2) z) := by
  unfold f_X5_join_b94 at E
  have e_h : qfr wz h h := qfr_rf
  obtain ⟨c97, h97, E0, E⟩ := qbn_el E
  have e_h97 := qfr_tr e_h (qfr_sub qsub_nil (fr_X5_compare x0 x1 x3 h E0))
  rcases qif_el E with E | E
  · exact qsome_f (Q := fun z => qfr wz h ((fun z : Int64 × qa_M => z.2) z)) E e_h97
  · exact qsome_f (Q := fun z => qfr wz h ((fun z : Int64 × qa_M => z.2) z)) E e_h97
theorem fr_X5_join (x0 : Int32) (x1 : Int64) (x3 : Int64) (h : qa_M) {z : (Int64 × qa_M)} (E : m_X5_join x0 x1 x3 h = some z) : qfr wz h ((fun z : Int64 × qa_M => z.2) z) := by
  unfold m_X5_join at E
  have e_h : qfr wz h h := qfr_rf
  rcases qif_el E with E | E
  · exact qsome_f (Q := fun z => qfr wz h ((fun z : Int64 × qa_M => z.2) z)) E e_h
  · rcases qif_el E with E | E
    · exact qsome_f (Q := fun z => qfr wz h ((fun z : Int64 × qa_M => z.2) z)) E e_h
    · rcases qif_el E with E | E
      · exact qfr_tr e_h (qfr_sub qsub_nil (fr_X5_join_b94 x0 x1 x3 h E))
      · rcases qif_el E with E | E
        · exact qfr_tr e_h (qfr_sub qsub_nil (fr_X5_join_b94 x0 x1 x3 h E))
        · rcases qif_el E with E | E
          · exact qfr_tr e_h (qfr_sub qsub_nil (fr_X5_join_b94 x0 x1 x3 h E))
          · rcases qif_el E with E | E
            · exact qfr_tr e_h (qfr_sub qsub_nil (fr_X5_join_b94 x0 x1 x3 h E))
            · rcases qif_el E with E | E
              · exact qfr_tr e_h (qfr_sub qsub_nil (fr_X5_join_b94 x0 x1 x3 h E))
              · rcases qif_el E with E | E
                · rcases qif_el E with E | E
                  · exact qsome_f (Q := fun z => qfr wz h ((fun z : Int64 × qa_M => z.2) z)) E e_h
                  · obtain ⟨-, E⟩ := qnz_el E
                    exact qsome_f (Q := fun z => qfr wz h ((fun z : Int64 × qa_M => z.2) z)) E e_h
                · rcases qif_el E with E | E
                  · exact qsome_f (Q := fun z => qfr wz h ((fun z : Int64 × qa_M => z.2) z)) E e_h
                  · rcases qif_el E with E | E
                    · exact qsome_f (Q := fun z => qfr wz h ((fun z : Int64 × qa_M => z.2) z)) E e_h
                    · rcases qif_el E with E | E
                      · exact qsome_f (Q := fun z => qfr wz h ((fun z : Int64 × qa_M => z.2) z)) E e_h
                      · exact qfr_tr e_h (qfr_sub qsub_nil (fr_X5_join_b94 x0 x1 x3 h E))
theorem fr_X5_isTrue_b142 (a0 : Nat) (x3 : Int32) (h : qa_M) {z : (Int32 × qa_M)} (E : f_X5_isTrue_b142 a0 x3 h = some z) : qfr wz h ((fun z : Int32 × qa_M => z.2) z) := by
  unfold f_X5_isTrue_b142 at E
  have e_h : qfr wz h h := qfr_rf
  rcases qif_el E with E | E
  · exact qsome_f (Q := fun z => qfr wz h ((fun z : Int32 × qa_M => z.2) z)) E e_h
  · obtain ⟨-, E⟩ := qck_el E
    rcases qif_el E with E | E
    · exact qsome_f (Q := fun z => qfr wz h ((fun z : Int32 × qa_M => z.2) z)) E e_h
    · exact qsome_f (Q := fun z => qfr wz h ((fun z : Int32 × qa_M => z.2) z)) E e_h
theorem fr_X5_isTrue_b136 (a0 : Nat) (x2 : Int32) (x3 : Int32) (x4 : Int32) (h : qa_M) {z : ((Int32 × Int32 × Int32 × qa_M) ⊕ (Int32 × qa_M))} (E : f_X5_isTrue_b136 a0 x2 x3 x4 h = some z) : qfr wz h ((Sum.elim (fun z : Int32 × Int32 × Int32 × qa_M => z.2.2.2) (fun z : Int32 × qa_M => z.2)) z) := by
  unfold f_X5_isTrue_b136 at E
  have e_h : qfr wz h h := qfr_rf
  obtain ⟨v136, -, E⟩ := qbd_el E
  exact qsome_f (Q := fun z => qfr wz h ((Sum.elim (fun z : Int32 × Int32 × Int32 × qa_M => z.2.2.2) (fun z : Int32 × qa_M => z.2)) z)) E e_h
def wf_X5_isTrue_b62 (s0 : Nat) : List (Nat × Nat) := [(s0, 0)]
theorem fr_X5_isTrue_b62 (a0 : Nat) (x2 : Int32) (x3 : Int32) (x4 : Int32) (s0 : Nat) (s1 : Int32) (s2 : Int64) (h : qa_M) {z : ((Int32 × Int32 × Int32 × qa_M) ⊕ (Int32 × qa_M))} (E : f_X5_isTrue_b62 a0 x2 x3 x4 s0 s1 s2 h = some z) : qfr (wf_X5_isTrue_b62 s0) h ((Sum.elim (fun z : Int32 × Int32 × Int32 × qa_M => z.2.2.2) (fun z : Int32 × qa_M => z.2)) z) := by
  unfold f_X5_isTrue_b62 at E
  have e_h : qfr (wf_X5_isTrue_b62 s0) h h := qfr_rf
  obtain ⟨n62, -, E⟩ := qal_el E
  obtain ⟨-, E⟩ := qck_el E
  obtain ⟨h62, q_h62, E⟩ := qbd_el E
  have e_h62 := qfr_J0 q_h62 (List.mem_of_getElem? (i := 0) rfl) e_h
  obtain ⟨v63, -, E⟩ := qbd_el E
  exact qfr_tr e_h62 (qfr_sub qsub_nil (fr_X5_isTrue_b136 a0 x2 v63 x4 h62 E))
def wf_X5_isTrue_b5 (a0 : Nat) : List (Nat × Nat) := [((a0 + 7), 0)]
theorem fr_X5_isTrue_b5 (a0 : Nat) (x2 : Int32) (x3 : Int32) (x4 : Int32) (h : qa_M) {z : ((Int32 × Int32 × Int32 × qa_M) ⊕ (Int32 × qa_M))} (E : f_X5_isTrue_b5 a0 x2 x3 x4 h = some z) : qfr (wf_X5_isTrue_b5 a0) h ((Sum.elim (fun z : Int32 × Int32 × Int32 × qa_M => z.2.2.2) (fun z : Int32 × qa_M => z.2)) z) := by
  unfold f_X5_isTrue_b5 at E
  have e_h : qfr (wf_X5_isTrue_b5 a0) h h := qfr_rf
  rcases qif_el E with E | E
  · refine qup_f (Q := fun z => qfr (wf_X5_isTrue_b5 a0) h ((Sum.elim (fun z : Int32 × Int32 × Int32 × qa_M => z.2.2.2) (fun z : Int32 × qa_M => z.2)) z)) E (fun rz E => ?_)
    exact qfr_tr e_h (qfr_sub qsub_nil (fr_X5_isTrue_b142 a0 x3 h E))
  · obtain ⟨-, E⟩ := qck_el E
    obtain ⟨v18, -, E⟩ := qbd_el E
    rcases qif_el E with E | E
    · rcases qif_el E with E | E
      · rcases qif_el E with E | E
        · exact qfr_tr e_h (qfr_sub qsub_nil (fr_X5_isTrue_b136 a0 x2 x3 x4 h E))
        · obtain ⟨-, E⟩ := qck_el E
          obtain ⟨-, E⟩ := qck_el E
          obtain ⟨h97, q_h97, E⟩ := qbd_el E
          have e_h97 := qfr_J0 q_h97 (List.mem_of_getElem? (i := 0) rfl) e_h
          exact qfr_tr e_h97 (qfr_sub qsub_nil (fr_X5_isTrue_b136 a0 x2 x3 x4 h97 E))
      · rcases qif_el E with E | E
        · exact qfr_tr e_h (qfr_sub qsub_nil (fr_X5_isTrue_b136 a0 x2 x3 x4 h E))
        · obtain ⟨v106, -, E⟩ := qbd_el E
          obtain ⟨-, E⟩ := qck_el E
          obtain ⟨-, E⟩ := qck_el E
          obtain ⟨c132, h132, E0, E⟩ := qbn_el E
          have e_h132 := qfr_tr e_h (qfr_sub qsub_nil (fr_X5_join v18 (h.2.1 (a0 + 7) (v106 - (1 : Int32)).toNatClampNeg) (h.2.1 (a0 + 7) v106.toNatClampNeg) h E0))
          obtain ⟨-, E⟩ := qck_el E
          obtain ⟨h135, q_h135, E⟩ := qbd_el E
          have e_h135 := qfr_J0 q_h135 (List.mem_of_getElem? (i := 0) rfl) e_h132
          exact qfr_tr e_h135 (qfr_sub qsub_nil (fr_X5_isTrue_b136 a0 x2 v106 x4 h135 E))
    · rcases qif_el E with E | E
      · exact qfr_tr e_h (qfr_sub qsub_nil (fr_X5_isTrue_b136 a0 x2 x3 x4 h E))
      · rcases qif_el E with E | E
        · obtain ⟨-, E⟩ := qck_el E
          exact qfr_tr e_h (qfr_sub (qsub_c (List.mem_of_getElem? (i := 0) rfl) qsub_nil) (fr_X5_isTrue_b62 a0 x2 x3 x4 (a0 + 7) x3 ((h.1 (a0 + 8) ((-1 : Int32) - v18).toNatClampNeg).toInt64) h E))
        · exact qfr_tr e_h (qfr_sub (qsub_c (List.mem_of_getElem? (i := 0) rfl) qsub_nil) (fr_X5_isTrue_b62 a0 x2 x3 x4 (a0 + 7) x3 v18.toInt64 h E))
theorem fr_X5_isTrue_b5_loop (a0 : Nat) (x2 : Int32) (x3 : Int32) (x4 : Int32) (h : qa_M) {z : (Int32 × qa_M)} (E : f_X5_isTrue_b5_loop a0 x2 x3 x4 h = some z) : qfr (wf_X5_isTrue_b5 a0) h ((fun z : Int32 × qa_M => z.2) z) :=
  qlp_ind (fun sz : Int32 × Int32 × Int32 × qa_M => qfr (wf_X5_isTrue_b5 a0) (sz.2.2.2) ((fun z : Int32 × qa_M => z.2) z)) (fun sz E => fr_X5_isTrue_b5 a0 sz.1 sz.2.1 sz.2.2.1 sz.2.2.2 E) (fun sz sz2 E ih => qfr_tr (fr_X5_isTrue_b5 a0 sz.1 sz.2.1 sz.2.2.1 sz.2.2.2 E) ih) (x2, x3, x4, h) E
def w_X5_isTrue (a0 : Nat) : List (Nat × Nat) := [((a0 + 7), 0)]
theorem fr_X5_isTrue (a0 : Nat) (x1 : Int32) (x2 : Int32) (h : qa_M) {z : (Int32 × qa_M)} (E : m_X5_isTrue a0 x1 x2 h = some z) : qfr (w_X5_isTrue a0) h ((fun z : Int32 × qa_M => z.2) z) := by
  unfold m_X5_isTrue at E
  have e_h : qfr (w_X5_isTrue a0) h h := qfr_rf
  obtain ⟨v1, -, E⟩ := qbd_el E
  obtain ⟨v3, -, E⟩ := qbd_el E
  exact qfr_tr e_h (qfr_sub (qsub_c (List.mem_of_getElem? (i := 0) rfl) qsub_nil) (fr_X5_isTrue_b5_loop a0 x2 v1 v3 h E))
theorem fr_X5_barSquares_b96 (a0 : Nat) (x3 : Int32) (h : qa_M) {z : ((Int32 × qa_M) ⊕ qa_M)} (E : f_X5_barSquares_b96 a0 x3 h = some z) : qfr wz h ((Sum.elim (fun z : Int32 × qa_M => z.2) (fun z : qa_M => z)) z) := by
  unfold f_X5_barSquares_b96 at E
  have e_h : qfr wz h h := qfr_rf
  obtain ⟨v96, -, E⟩ := qbd_el E
  exact qsome_f (Q := fun z => qfr wz h ((Sum.elim (fun z : Int32 × qa_M => z.2) (fun z : qa_M => z)) z)) E e_h
theorem fr_X5_barSquares_b90 (a0 : Nat) (x3 : Int32) (x4 : Int32) (h : qa_M) {z : ((Int32 × Int32 × qa_M) ⊕ ((Int32 × qa_M) ⊕ qa_M))} (E : f_X5_barSquares_b90 a0 x3 x4 h = some z) : qfr wz h ((Sum.elim (fun z : Int32 × Int32 × qa_M => z.2.2) (Sum.elim (fun z : Int32 × qa_M => z.2) (fun z : qa_M => z))) z) := by
  unfold f_X5_barSquares_b90 at E
  have e_h : qfr wz h h := qfr_rf
  obtain ⟨v90, -, E⟩ := qbd_el E
  exact qsome_f (Q := fun z => qfr wz h ((Sum.elim (fun z : Int32 × Int32 × qa_M => z.2.2) (Sum.elim (fun z : Int32 × qa_M => z.2) (fun z : qa_M => z))) z)) E e_h
def wf_X5_barSquares_b43 (a0 : Nat) : List (Nat × Nat) := [(24, 0), ((a0 + 7), 0)]
theorem fr_X5_barSquares_b43 (a0 : Nat) (x3 : Int32) (x4 : Int32) (h : qa_M) {z : ((Int32 × Int32 × qa_M) ⊕ ((Int32 × qa_M) ⊕ qa_M))} (E : f_X5_barSquares_b43 a0 x3 x4 h = some z) : qfr (wf_X5_barSquares_b43 a0) h ((Sum.elim (fun z : Int32 × Int32 × qa_M => z.2.2) (Sum.elim (fun z : Int32 × qa_M => z.2) (fun z : qa_M => z))) z) := by
  unfold f_X5_barSquares_b43 at E
  have e_h : qfr (wf_X5_barSquares_b43 a0) h h := qfr_rf
  rcases qif_el E with E | E
  · refine qup_f (Q := fun z => qfr (wf_X5_barSquares_b43 a0) h ((Sum.elim (fun z : Int32 × Int32 × qa_M => z.2.2) (Sum.elim (fun z : Int32 × qa_M => z.2) (fun z : qa_M => z))) z)) E (fun rz E => ?_)
    exact qfr_tr e_h (qfr_sub qsub_nil (fr_X5_barSquares_b96 a0 x3 h E))
  · obtain ⟨-, E⟩ := qck_el E
    obtain ⟨-, E⟩ := qck_el E
    obtain ⟨c69, h69, E0, E⟩ := qbn_el E
    have e_h69 := qfr_tr e_h (qfr_sub (qsub_c (List.mem_of_getElem? (i := 1) rfl) qsub_nil) (fr_X5_isTrue a0 (h.1 (a0 + 5) x4.toNatClampNeg) (h.1 (a0 + 5) (x4 + (1 : Int32)).toNatClampNeg) h E0))
    rcases qif_el E with E | E
    · exact qfr_tr e_h69 (qfr_sub qsub_nil (fr_X5_barSquares_b90 a0 x3 x4 h69 E))
    · obtain ⟨-, E⟩ := qck_el E
      obtain ⟨-, E⟩ := qck_el E
      obtain ⟨-, E⟩ := qck_el E
      obtain ⟨h89, q_h89, E⟩ := qbd_el E
      have e_h89 := qfr_J0 q_h89 (List.mem_of_getElem? (i := 0) rfl) e_h69
      exact qfr_tr e_h89 (qfr_sub qsub_nil (fr_X5_barSquares_b90 a0 x3 x4 h89 E))
theorem fr_X5_barSquares_b43_loop (a0 : Nat) (x3 : Int32) (x4 : Int32) (h : qa_M) {z : ((Int32 × qa_M) ⊕ qa_M)} (E : f_X5_barSquares_b43_loop a0 x3 x4 h = some z) : qfr (wf_X5_barSquares_b43 a0) h ((Sum.elim (fun z : Int32 × qa_M => z.2) (fun z : qa_M => z)) z) :=
  qlp_ind (fun sz : Int32 × Int32 × qa_M => qfr (wf_X5_barSquares_b43 a0) (sz.2.2) ((Sum.elim (fun z : Int32 × qa_M => z.2) (fun z : qa_M => z)) z)) (fun sz E => fr_X5_barSquares_b43 a0 sz.1 sz.2.1 sz.2.2 E) (fun sz sz2 E ih => qfr_tr (fr_X5_barSquares_b43 a0 sz.1 sz.2.1 sz.2.2 E) ih) (x3, x4, h) E
def wf_X5_barSquares_b15 (a0 : Nat) : List (Nat × Nat) := [(24, 0), ((a0 + 7), 0), ((a0 + 8), 0)]
theorem fr_X5_barSquares_b15 (a0 : Nat) (x3 : Int32) (h : qa_M) {z : ((Int32 × qa_M) ⊕ qa_M)} (E : f_X5_barSquares_b15 a0 x3 h = some z) : qfr (wf_X5_barSquares_b15 a0) h ((Sum.elim (fun z : Int32 × qa_M => z.2) (fun z : qa_M => z)) z) := by
  unfold f_X5_barSquares_b15 at E
  have e_h : qfr (wf_X5_barSquares_b15 a0) h h := qfr_rf
  rcases qif_el E with E | E
  · refine qup_f (Q := fun z => qfr (wf_X5_barSquares_b15 a0) h ((Sum.elim (fun z : Int32 × qa_M => z.2) (fun z : qa_M => z)) z)) E (fun rz E => ?_)
    exact qsome_f (Q := fun z => qfr (wf_X5_barSquares_b15 a0) h ((fun z : qa_M => z) z)) E e_h
  · rcases qif_el E with E | E
    · exact qfr_tr e_h (qfr_sub qsub_nil (fr_X5_barSquares_b96 a0 x3 h E))
    · obtain ⟨h37, E0, E⟩ := qbv_el E
      have e_h37 := qfr_tr e_h (qfr_sub (qsub_c (List.mem_of_getElem? (i := 2) rfl) qsub_nil) (fr_X5_learn a0 x3 h E0))
      obtain ⟨v41, -, E⟩ := qbd_el E
      exact qfr_tr e_h37 (qfr_sub (qsub_c (List.mem_of_getElem? (i := 0) rfl) (qsub_c (List.mem_of_getElem? (i := 1) rfl) qsub_nil)) (fr_X5_barSquares_b43_loop a0 x3 v41 h37 E))
theorem fr_X5_barSquares_b15_loop (a0 : Nat) (x3 : Int32) (h : qa_M) {z : qa_M} (E : f_X5_barSquares_b15_loop a0 x3 h = some z) : qfr (wf_X5_barSquares_b15 a0) h ((fun z : qa_M => z) z) :=
  qlp_ind (fun sz : Int32 × qa_M => qfr (wf_X5_barSquares_b15 a0) (sz.2) ((fun z : qa_M => z) z)) (fun sz E => fr_X5_barSquares_b15 a0 sz.1 sz.2 E) (fun sz sz2 E ih => qfr_tr (fr_X5_barSquares_b15 a0 sz.1 sz.2 E) ih) (x3, h) E
def w_X5_barSquares (a0 : Nat) : List (Nat × Nat) := [(24, 0), ((a0 + 5), 0), ((a0 + 7), 0), ((a0 + 8), 0)]
theorem fr_X5_barSquares (a0 : Nat) (h : qa_M) {z : qa_M} (E : m_X5_barSquares a0 h = some z) : qfr (w_X5_barSquares a0) h ((fun z : qa_M => z) z) := by
  unfold m_X5_barSquares at E
  have e_h : qfr (w_X5_barSquares a0) h h := qfr_rf
  obtain ⟨-, E⟩ := qck_el E
  obtain ⟨h12, q_h12, E⟩ := qbd_el E
  have e_h12 := qfr_I0 q_h12 (List.mem_of_getElem? (i := 1) rfl) e_h
  obtain ⟨v14, -, E⟩ := qbd_el E
  exact qfr_tr e_h12 (qfr_sub (qsub_c (List.mem_of_getElem? (i := 0) rfl) (qsub_c (List.mem_of_getElem? (i := 2) rfl) (qsub_c (List.mem_of_getElem? (i := 3) rfl) qsub_nil))) (fr_X5_barSquares_b15_loop a0 v14 h12 E))
def w_X7_keepApart : List (Nat × Nat) := [(25, 0)]
theorem fr_X7_keepApart (x1 : Int32) (x2 : Int32) (x3 : Int32) (h : qa_M) {z : qa_M} (E : m_X7_keepApart x1 x2 x3 h = some z) : qfr w_X7_keepApart h ((fun z : qa_M => z) z) := by
  unfold m_X7_keepApart at E
  have e_h : qfr w_X7_keepApart h h := qfr_rf
  obtain ⟨v5, -, E⟩ := qbd_el E
  obtain ⟨-, E⟩ := qck_el E
  obtain ⟨-, E⟩ := qck_el E
  obtain ⟨h24, q_h24, E⟩ := qbd_el E
  have e_h24 := qfr_I0 q_h24 (List.mem_of_getElem? (i := 0) rfl) e_h
  exact qsome_f (Q := fun z => qfr w_X7_keepApart h ((fun z : qa_M => z) z)) E e_h24
def wf_X7_prepare_b108 : List (Nat × Nat) := [(25, 0)]
theorem fr_X7_prepare_b108 (x1 : Nat) (x3 : Int32) (h : qa_M) {z : ((Nat × Int32 × qa_M) ⊕ qa_M)} (E : f_X7_prepare_b108 x1 x3 h = some z) : qfr wf_X7_prepare_b108 h ((Sum.elim (fun z : Nat × Int32 × qa_M => z.2.2) (fun z : qa_M => z)) z) := by
  unfold f_X7_prepare_b108 at E
  have e_h : qfr wf_X7_prepare_b108 h h := qfr_rf
  obtain ⟨pz, E⟩ := qpr_el E
  rcases pz with rfl | rfl | rfl | rfl
  · rcases qif_el E with E | E
    · refine qup_f (Q := fun z => qfr wf_X7_prepare_b108 h ((Sum.elim (fun z : Nat × Int32 × qa_M => z.2.2) (fun z : qa_M => z)) z)) E (fun rz E => ?_)
      exact qsome_f (Q := fun z => qfr wf_X7_prepare_b108 h ((fun z : qa_M => z) z)) E e_h
    · obtain ⟨-, E⟩ := qck_el E
      obtain ⟨-, E⟩ := qck_el E
      obtain ⟨-, E⟩ := qck_el E
      obtain ⟨h135, E0, E⟩ := qbv_el E
      have e_h135 := qfr_tr e_h (qfr_sub (qsub_c (List.mem_of_getElem? (i := 0) rfl) qsub_nil) (fr_X7_keepApart (h.1 (83 + 1) x3.toNatClampNeg) (h.1 (83 + 2) x3.toNatClampNeg) (h.1 (83 + 3) x3.toNatClampNeg) h E0))
      obtain ⟨-, E⟩ := qck_el E
      obtain ⟨-, E⟩ := qck_el E
      obtain ⟨-, E⟩ := qck_el E
      obtain ⟨h157, E0, E⟩ := qbv_el E
      have e_h157 := qfr_tr e_h135 (qfr_sub (qsub_c (List.mem_of_getElem? (i := 0) rfl) qsub_nil) (fr_X7_keepApart (h135.1 (83 + 2) x3.toNatClampNeg) (h135.1 (83 + 1) x3.toNatClampNeg) (h135.1 (83 + 3) x3.toNatClampNeg) h135 E0))
      obtain ⟨v160, -, E⟩ := qbd_el E
      exact qsome_f (Q := fun z => qfr wf_X7_prepare_b108 h ((Sum.elim (fun z : Nat × Int32 × qa_M => z.2.2) (fun z : qa_M => z)) z)) E e_h157
  · rcases qif_el E with E | E
    · refine qup_f (Q := fun z => qfr wf_X7_prepare_b108 h ((Sum.elim (fun z : Nat × Int32 × qa_M => z.2.2) (fun z : qa_M => z)) z)) E (fun rz E => ?_)
      exact qsome_f (Q := fun z => qfr wf_X7_prepare_b108 h ((fun z : qa_M => z) z)) E e_h
    · obtain ⟨-, E⟩ := qck_el E
      obtain ⟨-, E⟩ := qck_el E
      obtain ⟨-, E⟩ := qck_el E
      obtain ⟨h135, E0, E⟩ := qbv_el E
      have e_h135 := qfr_tr e_h (qfr_sub (qsub_c (List.mem_of_getElem? (i := 0) rfl) qsub_nil) (fr_X7_keepApart (h.1 (92 + 1) x3.toNatClampNeg) (h.1 (92 + 2) x3.toNatClampNeg) (h.1 (92 + 3) x3.toNatClampNeg) h E0))
      obtain ⟨-, E⟩ := qck_el E
      obtain ⟨-, E⟩ := qck_el E
      obtain ⟨-, E⟩ := qck_el E
      obtain ⟨h157, E0, E⟩ := qbv_el E
      have e_h157 := qfr_tr e_h135 (qfr_sub (qsub_c (List.mem_of_getElem? (i := 0) rfl) qsub_nil) (fr_X7_keepApart (h135.1 (92 + 2) x3.toNatClampNeg) (h135.1 (92 + 1) x3.toNatClampNeg) (h135.1 (92 + 3) x3.toNatClampNeg) h135 E0))
      obtain ⟨v160, -, E⟩ := qbd_el E
      exact qsome_f (Q := fun z => qfr wf_X7_prepare_b108 h ((Sum.elim (fun z : Nat × Int32 × qa_M => z.2.2) (fun z : qa_M => z)) z)) E e_h157
  · rcases qif_el E with E | E
    · refine qup_f (Q := fun z => qfr wf_X7_prepare_b108 h ((Sum.elim (fun z : Nat × Int32 × qa_M => z.2.2) (fun z : qa_M => z)) z)) E (fun rz E => ?_)
      exact qsome_f (Q := fun z => qfr wf_X7_prepare_b108 h ((fun z : qa_M => z) z)) E e_h
    · obtain ⟨-, E⟩ := qck_el E
      obtain ⟨-, E⟩ := qck_el E
      obtain ⟨-, E⟩ := qck_el E
      obtain ⟨h135, E0, E⟩ := qbv_el E
      have e_h135 := qfr_tr e_h (qfr_sub (qsub_c (List.mem_of_getElem? (i := 0) rfl) qsub_nil) (fr_X7_keepApart (h.1 (101 + 1) x3.toNatClampNeg) (h.1 (101 + 2) x3.toNatClampNeg) (h.1 (101 + 3) x3.toNatClampNeg) h E0))
      obtain ⟨-, E⟩ := qck_el E
      obtain ⟨-, E⟩ := qck_el E
      obtain ⟨-, E⟩ := qck_el E
      obtain ⟨h157, E0, E⟩ := qbv_el E
      have e_h157 := qfr_tr e_h135 (qfr_sub (qsub_c (List.mem_of_getElem? (i := 0) rfl) qsub_nil) (fr_X7_keepApart (h135.1 (101 + 2) x3.toNatClampNeg) (h135.1 (101 + 1) x3.toNatClampNeg) (h135.1 (101 + 3) x3.toNatClampNeg) h135 E0))
      obtain ⟨v160, -, E⟩ := qbd_el E
      exact qsome_f (Q := fun z => qfr wf_X7_prepare_b108 h ((Sum.elim (fun z : Nat × Int32 × qa_M => z.2.2) (fun z : qa_M => z)) z)) E e_h157
  · rcases qif_el E with E | E
    · refine qup_f (Q := fun z => qfr wf_X7_prepare_b108 h ((Sum.elim (fun z : Nat × Int32 × qa_M => z.2.2) (fun z : qa_M => z)) z)) E (fun rz E => ?_)
      exact qsome_f (Q := fun z => qfr wf_X7_prepare_b108 h ((fun z : qa_M => z) z)) E e_h
    · obtain ⟨-, E⟩ := qck_el E
      obtain ⟨-, E⟩ := qck_el E
      obtain ⟨-, E⟩ := qck_el E
      obtain ⟨h135, E0, E⟩ := qbv_el E
      have e_h135 := qfr_tr e_h (qfr_sub (qsub_c (List.mem_of_getElem? (i := 0) rfl) qsub_nil) (fr_X7_keepApart (h.1 (110 + 1) x3.toNatClampNeg) (h.1 (110 + 2) x3.toNatClampNeg) (h.1 (110 + 3) x3.toNatClampNeg) h E0))
      obtain ⟨-, E⟩ := qck_el E
      obtain ⟨-, E⟩ := qck_el E
      obtain ⟨-, E⟩ := qck_el E
      obtain ⟨h157, E0, E⟩ := qbv_el E
      have e_h157 := qfr_tr e_h135 (qfr_sub (qsub_c (List.mem_of_getElem? (i := 0) rfl) qsub_nil) (fr_X7_keepApart (h135.1 (110 + 2) x3.toNatClampNeg) (h135.1 (110 + 1) x3.toNatClampNeg) (h135.1 (110 + 3) x3.toNatClampNeg) h135 E0))
      obtain ⟨v160, -, E⟩ := qbd_el E
      exact qsome_f (Q := fun z => qfr wf_X7_prepare_b108 h ((Sum.elim (fun z : Nat × Int32 × qa_M => z.2.2) (fun z : qa_M => z)) z)) E e_h157
theorem fr_X7_prepare_b108_loop (x1 : Nat) (x3 : Int32) (h : qa_M) {z : qa_M} (E : f_X7_prepare_b108_loop x1 x3 h = some z) : qfr wf_X7_prepare_b108 h ((fun z : qa_M => z) z) :=
  qlp_ind (fun sz : Nat × Int32 × qa_M => qfr wf_X7_prepare_b108 (sz.2.2) ((fun z : qa_M => z) z)) (fun sz E => fr_X7_prepare_b108 sz.1 sz.2.1 sz.2.2 E) (fun sz sz2 E ih => qfr_tr (fr_X7_prepare_b108 sz.1 sz.2.1 sz.2.2 E) ih) (x1, x3, h) E
def wf_X7_prepare_b77 : List (Nat × Nat) := [(24, 0), (25, 0), (88, 0), (90, 0), (91, 0), (97, 0), (99, 0), (100, 0), (106, 0), (108, 0), (109, 0), (115, 0), (117, 0), (118, 0)]
theorem fr_X7_prepare_b77 (x1 : Nat) (h : qa_M) {z : qa_M} (E : f_X7_prepare_b77 x1 h = some z) : qfr wf_X7_prepare_b77 h ((fun z : qa_M => z) z) := by
  unfold f_X7_prepare_b77 at E
  have e_h : qfr wf_X7_prepare_b77 h h := qfr_rf
  obtain ⟨h82, E0, E⟩ := qbv_el E
  have e_h82 := qfr_tr e_h (qfr_sub (qsub_c (List.mem_of_getElem? (i := 0) rfl) qsub_nil) (fr_J7_fill_d0a16 (0 : Int64) h E0))
  obtain ⟨h90, E0, E⟩ := qbv_el E
  have e_h90 := qfr_tr e_h82 (qfr_sub (qsub_c (List.mem_of_getElem? (i := 1) rfl) qsub_nil) (fr_J7_fill_53178 25 (1 : Int32) h82 E0))
  rcases qnul_el E with E | ⟨a94, -, E⟩
  · exact qsome_f (Q := fun z => qfr wf_X7_prepare_b77 h ((fun z : qa_M => z) z)) E e_h90
  · obtain ⟨pz, E⟩ := qpr_el E
    rcases pz with rfl | rfl | rfl | rfl
    · obtain ⟨h103, E0, E⟩ := qbv_el E
      have e_h103 := qfr_tr e_h90 (qfr_sub (qsub_c (List.mem_of_getElem? (i := 0) rfl) (qsub_c (List.mem_of_getElem? (i := 2) rfl) (qsub_c (List.mem_of_getElem? (i := 3) rfl) (qsub_c (List.mem_of_getElem? (i := 4) rfl) qsub_nil)))) (fr_X5_barSquares 83 h90 E0))
      obtain ⟨v107, -, E⟩ := qbd_el E
      exact qfr_tr e_h103 (qfr_sub (qsub_c (List.mem_of_getElem? (i := 1) rfl) qsub_nil) (fr_X7_prepare_b108_loop 83 v107 h103 E))
    · obtain ⟨h103, E0, E⟩ := qbv_el E
      have e_h103 := qfr_tr e_h90 (qfr_sub (qsub_c (List.mem_of_getElem? (i := 0) rfl) (qsub_c (List.mem_of_getElem? (i := 5) rfl) (qsub_c (List.mem_of_getElem? (i := 6) rfl) (qsub_c (List.mem_of_getElem? (i := 7) rfl) qsub_nil)))) (fr_X5_barSquares 92 h90 E0))
      obtain ⟨v107, -, E⟩ := qbd_el E
      exact qfr_tr e_h103 (qfr_sub (qsub_c (List.mem_of_getElem? (i := 1) rfl) qsub_nil) (fr_X7_prepare_b108_loop 92 v107 h103 E))
    · obtain ⟨h103, E0, E⟩ := qbv_el E
      have e_h103 := qfr_tr e_h90 (qfr_sub (qsub_c (List.mem_of_getElem? (i := 0) rfl) (qsub_c (List.mem_of_getElem? (i := 8) rfl) (qsub_c (List.mem_of_getElem? (i := 9) rfl) (qsub_c (List.mem_of_getElem? (i := 10) rfl) qsub_nil)))) (fr_X5_barSquares 101 h90 E0))
      obtain ⟨v107, -, E⟩ := qbd_el E
      exact qfr_tr e_h103 (qfr_sub (qsub_c (List.mem_of_getElem? (i := 1) rfl) qsub_nil) (fr_X7_prepare_b108_loop 101 v107 h103 E))
    · obtain ⟨h103, E0, E⟩ := qbv_el E
      have e_h103 := qfr_tr e_h90 (qfr_sub (qsub_c (List.mem_of_getElem? (i := 0) rfl) (qsub_c (List.mem_of_getElem? (i := 11) rfl) (qsub_c (List.mem_of_getElem? (i := 12) rfl) (qsub_c (List.mem_of_getElem? (i := 13) rfl) qsub_nil)))) (fr_X5_barSquares 110 h90 E0))
      obtain ⟨v107, -, E⟩ := qbd_el E
      exact qfr_tr e_h103 (qfr_sub (qsub_c (List.mem_of_getElem? (i := 1) rfl) qsub_nil) (fr_X7_prepare_b108_loop 110 v107 h103 E))
theorem fr_X7_prepare_b71 (x1 : Nat) (x3 : Int32) (h : qa_M) {z : ((Nat × Int32 × qa_M) ⊕ qa_M)} (E : f_X7_prepare_b71 x1 x3 h = some z) : qfr wz h ((Sum.elim (fun z : Nat × Int32 × qa_M => z.2.2) (fun z : qa_M => z)) z) := by
  unfold f_X7_prepare_b71 at E
  have e_h : qfr wz h h := qfr_rf
  obtain ⟨v71, -, E⟩ := qbd_el E
  exact qsome_f (Q := fun z => qfr wz h ((Sum.elim (fun z : Nat × Int32 × qa_M => z.2.2) (fun z : qa_M => z)) z)) E e_h
def wf_X7_prepare_b26 : List (Nat × Nat) := [(22, 5), (26, 0)]
theorem fr_X7_prepare_b26 (x1 : Nat) (x3 : Int32) (x4 : Int32) (h : qa_M) {z : ((Nat × Int32 × Int32 × qa_M) ⊕ ((Nat × Int32 × qa_M) ⊕ qa_M))} (E : f_X7_prepare_b26 x1 x3 x4 h = some z) : qfr wf_X7_prepare_b26 h ((Sum.elim (fun z : Nat × Int32 × Int32 × qa_M => z.2.2.2) (Sum.elim (fun z : Nat × Int32 × qa_M => z.2.2) (fun z : qa_M => z))) z) := by
  unfold f_X7_prepare_b26 at E
  have e_h : qfr wf_X7_prepare_b26 h h := qfr_rf
  obtain ⟨-, E⟩ := qck_el E
  rcases qif_el E with E | E
  · refine qup_f (Q := fun z => qfr wf_X7_prepare_b26 h ((Sum.elim (fun z : Nat × Int32 × Int32 × qa_M => z.2.2.2) (Sum.elim (fun z : Nat × Int32 × qa_M => z.2.2) (fun z : qa_M => z))) z)) E (fun rz E => ?_)
    exact qfr_tr e_h (qfr_sub qsub_nil (fr_X7_prepare_b71 x1 x3 h E))
  · rcases qif_el E with E | E
    · refine qup_f (Q := fun z => qfr wf_X7_prepare_b26 h ((Sum.elim (fun z : Nat × Int32 × Int32 × qa_M => z.2.2.2) (Sum.elim (fun z : Nat × Int32 × qa_M => z.2.2) (fun z : qa_M => z))) z)) E (fun rz E => ?_)
      exact qfr_tr e_h (qfr_sub qsub_nil (fr_X7_prepare_b71 x1 x3 h E))
    · obtain ⟨-, E⟩ := qck_el E
      obtain ⟨h54, q_h54, E⟩ := qbd_el E
      have e_h54 := qfr_I0 q_h54 (List.mem_of_getElem? (i := 1) rfl) e_h
      obtain ⟨h62, q_h62, E⟩ := qbd_el E
      have e_h62 := qfr_Ik q_h62 (List.mem_of_getElem? (i := 0) rfl) e_h54
      obtain ⟨v65, -, E⟩ := qbd_el E
      exact qsome_f (Q := fun z => qfr wf_X7_prepare_b26 h ((Sum.elim (fun z : Nat × Int32 × Int32 × qa_M => z.2.2.2) (Sum.elim (fun z : Nat × Int32 × qa_M => z.2.2) (fun z : qa_M => z))) z)) E e_h62
theorem fr_X7_prepare_b26_loop (x1 : Nat) (x3 : Int32) (x4 : Int32) (h : qa_M) {z : ((Nat × Int32 × qa_M) ⊕ qa_M)} (E : f_X7_prepare_b26_loop x1 x3 x4 h = some z) : qfr wf_X7_prepare_b26 h ((Sum.elim (fun z : Nat × Int32 × qa_M => z.2.2) (fun z : qa_M => z)) z) :=
  qlp_ind (fun sz : Nat × Int32 × Int32 × qa_M => qfr wf_X7_prepare_b26 (sz.2.2.2) ((Sum.elim (fun z : Nat × Int32 × qa_M => z.2.2) (fun z : qa_M => z)) z)) (fun sz E => fr_X7_prepare_b26 sz.1 sz.2.1 sz.2.2.1 sz.2.2.2 E) (fun sz sz2 E ih => qfr_tr (fr_X7_prepare_b26 sz.1 sz.2.1 sz.2.2.1 sz.2.2.2 E) ih) (x1, x3, x4, h) E
def wf_X7_prepare_b15 : List (Nat × Nat) := [(22, 5), (24, 0), (25, 0), (26, 0), (88, 0), (90, 0), (91, 0), (97, 0), (99, 0), (100, 0), (106, 0), (108, 0), (109, 0), (115, 0), (117, 0), (118, 0)]
theorem fr_X7_prepare_b15 (x1 : Nat) (x3 : Int32) (h : qa_M) {z : ((Nat × Int32 × qa_M) ⊕ qa_M)} (E : f_X7_prepare_b15 x1 x3 h = some z) : qfr wf_X7_prepare_b15 h ((Sum.elim (fun z : Nat × Int32 × qa_M => z.2.2) (fun z : qa_M => z)) z) := by
  unfold f_X7_prepare_b15 at E
  have e_h : qfr wf_X7_prepare_b15 h h := qfr_rf
  rcases qif_el E with E | E
  · refine qup_f (Q := fun z => qfr wf_X7_prepare_b15 h ((Sum.elim (fun z : Nat × Int32 × qa_M => z.2.2) (fun z : qa_M => z)) z)) E (fun rz E => ?_)
    exact qfr_tr e_h (qfr_sub (qsub_c (List.mem_of_getElem? (i := 1) rfl) (qsub_c (List.mem_of_getElem? (i := 2) rfl) (qsub_c (List.mem_of_getElem? (i := 4) rfl) (qsub_c (List.mem_of_getElem? (i := 5) rfl) (qsub_c (List.mem_of_getElem? (i := 6) rfl) (qsub_c (List.mem_of_getElem? (i := 7) rfl) (qsub_c (List.mem_of_getElem? (i := 8) rfl) (qsub_c (List.mem_of_getElem? (i := 9) rfl) (qsub_c (List.mem_of_getElem? (i := 10) rfl) (qsub_c (List.mem_of_getElem? (i := 11) rfl) (qsub_c (List.mem_of_getElem? (i := 12) rfl) (qsub_c (List.mem_of_getElem? (i := 13) rfl) (qsub_c (List.mem_of_getElem? (i := 14) rfl) (qsub_c (List.mem_of_getElem? (i := 15) rfl) qsub_nil)))))))))))))) (fr_X7_prepare_b77 x1 h E))
  · obtain ⟨v24, -, E⟩ := qbd_el E
    exact qfr_tr e_h (qfr_sub (qsub_c (List.mem_of_getElem? (i := 0) rfl) (qsub_c (List.mem_of_getElem? (i := 3) rfl) qsub_nil)) (fr_X7_prepare_b26_loop x1 x3 v24 h E))
theorem fr_X7_prepare_b15_loop (x1 : Nat) (x3 : Int32) (h : qa_M) {z : qa_M} (E : f_X7_prepare_b15_loop x1 x3 h = some z) : qfr wf_X7_prepare_b15 h ((fun z : qa_M => z) z) :=
  qlp_ind (fun sz : Nat × Int32 × qa_M => qfr wf_X7_prepare_b15 (sz.2.2) ((fun z : qa_M => z) z)) (fun sz E => fr_X7_prepare_b15 sz.1 sz.2.1 sz.2.2 E) (fun sz sz2 E ih => qfr_tr (fr_X7_prepare_b15 sz.1 sz.2.1 sz.2.2 E) ih) (x1, x3, h) E
def w_X7_prepare : List (Nat × Nat) := [(22, 5), (24, 0), (25, 0), (26, 0), (88, 0), (90, 0), (91, 0), (97, 0), (99, 0), (100, 0), (106, 0), (108, 0), (109, 0), (115, 0), (117, 0), (118, 0)]
theorem fr_X7_prepare (x1 : Nat) (h : qa_M) {z : qa_M} (E : m_X7_prepare x1 h = some z) : qfr w_X7_prepare h ((fun z : qa_M => z) z) := by
  unfold m_X7_prepare at E
  have e_h : qfr w_X7_prepare h h := qfr_rf
  obtain ⟨h10, q_h10, E⟩ := qbd_el E
  have e_h10 := qfr_Ik q_h10 (List.mem_of_getElem? (i := 0) rfl) e_h
  obtain ⟨v14, -, E⟩ := qbd_el E
  exact qfr_tr e_h10 (qfr_sub (qsub_c (List.mem_of_getElem? (i := 0) rfl) (qsub_c (List.mem_of_getElem? (i := 1) rfl) (qsub_c (List.mem_of_getElem? (i := 2) rfl) (qsub_c (List.mem_of_getElem? (i := 3) rfl) (qsub_c (List.mem_of_getElem? (i := 4) rfl) (qsub_c (List.mem_of_getElem? (i := 5) rfl) (qsub_c (List.mem_of_getElem? (i := 6) rfl) (qsub_c (List.mem_of_getElem? (i := 7) rfl) (qsub_c (List.mem_of_getElem? (i := 8) rfl) (qsub_c (List.mem_of_getElem? (i := 9) rfl) (qsub_c (List.mem_of_getElem? (i := 10) rfl) (qsub_c (List.mem_of_getElem? (i := 11) rfl) (qsub_c (List.mem_of_getElem? (i := 12) rfl) (qsub_c (List.mem_of_getElem? (i := 13) rfl) (qsub_c (List.mem_of_getElem? (i := 14) rfl) (qsub_c (List.mem_of_getElem? (i := 15) rfl) qsub_nil)))))))))))))))) (fr_X7_prepare_b15_loop x1 v14 h10 E))
def wf_X11_prepare_b41 : List (Nat × Nat) := [(0, 15), (22, 5), (24, 0), (25, 0), (26, 0), (88, 0), (90, 0), (91, 0), (97, 0), (99, 0), (100, 0), (106, 0), (108, 0), (109, 0), (115, 0), (117, 0), (118, 0)]
theorem fr_X11_prepare_b41 (s1 : Nat) (h : qa_M) {z : qa_M} (E : f_X11_prepare_b41 s1 h = some z) : qfr wf_X11_prepare_b41 h ((fun z : qa_M => z) z) := by
  unfold f_X11_prepare_b41 at E
  have e_h : qfr wf_X11_prepare_b41 h h := qfr_rf
  obtain ⟨h41, E0, E⟩ := qbv_el E
  have e_h41 := qfr_tr e_h (qfr_sub (qsub_c (List.mem_of_getElem? (i := 1) rfl) (qsub_c (List.mem_of_getElem? (i := 2) rfl) (qsub_c (List.mem_of_getElem? (i := 3) rfl) (qsub_c (List.mem_of_getElem? (i := 4) rfl) (qsub_c (List.mem_of_getElem? (i := 5) rfl) (qsub_c (List.mem_of_getElem? (i := 6) rfl) (qsub_c (List.mem_of_getElem? (i := 7) rfl) (qsub_c (List.mem_of_getElem? (i := 8) rfl) (qsub_c (List.mem_of_getElem? (i := 9) rfl) (qsub_c (List.mem_of_getElem? (i := 10) rfl) (qsub_c (List.mem_of_getElem? (i := 11) rfl) (qsub_c (List.mem_of_getElem? (i := 12) rfl) (qsub_c (List.mem_of_getElem? (i := 13) rfl) (qsub_c (List.mem_of_getElem? (i := 14) rfl) (qsub_c (List.mem_of_getElem? (i := 15) rfl) (qsub_c (List.mem_of_getElem? (i := 16) rfl) qsub_nil)))))))))))))))) (fr_X7_prepare s1 h E0))
  obtain ⟨h49, q_h49, E⟩ := qbd_el E
  have e_h49 := qfr_Ik q_h49 (List.mem_of_getElem? (i := 0) rfl) e_h41
  exact qsome_f (Q := fun z => qfr wf_X11_prepare_b41 h ((fun z : qa_M => z) z)) E e_h49
def w_X11_prepare : List (Nat × Nat) := [(0, 15), (22, 5), (24, 0), (25, 0), (26, 0), (88, 0), (90, 0), (91, 0), (97, 0), (99, 0), (100, 0), (106, 0), (108, 0), (109, 0), (115, 0), (117, 0), (118, 0)]
theorem fr_X11_prepare (h : qa_M) {z : qa_M} (E : m_X11_prepare h = some z) : qfr w_X11_prepare h ((fun z : qa_M => z) z) := by
  unfold m_X11_prepare at E
  have e_h : qfr w_X11_prepare h h := qfr_rf
  rcases qif_el E with E | E
  · exact qsome_f (Q := fun z => qfr w_X11_prepare h ((fun z : qa_M => z) z)) E e_h
  · rcases qif_el E with E | E
    · obtain ⟨-, E⟩ := qck_el E
      exact qfr_tr e_h (qfr_sub (qsub_c (List.mem_of_getElem? (i := 0) rfl) (qsub_c (List.mem_of_getElem? (i := 1) rfl) (qsub_c (List.mem_of_getElem? (i := 2) rfl) (qsub_c (List.mem_of_getElem? (i := 3) rfl) (qsub_c (List.mem_of_getElem? (i := 4) rfl) (qsub_c (List.mem_of_getElem? (i := 5) rfl) (qsub_c (List.mem_of_getElem? (i := 6) rfl) (qsub_c (List.mem_of_getElem? (i := 7) rfl) (qsub_c (List.mem_of_getElem? (i := 8) rfl) (qsub_c (List.mem_of_getElem? (i := 9) rfl) (qsub_c (List.mem_of_getElem? (i := 10) rfl) (qsub_c (List.mem_of_getElem? (i := 11) rfl) (qsub_c (List.mem_of_getElem? (i := 12) rfl) (qsub_c (List.mem_of_getElem? (i := 13) rfl) (qsub_c (List.mem_of_getElem? (i := 14) rfl) (qsub_c (List.mem_of_getElem? (i := 15) rfl) (qsub_c (List.mem_of_getElem? (i := 16) rfl) qsub_nil))))))))))))))))) (fr_X11_prepare_b41 (h.2.2.1 13 (h.1 3 3).toNatClampNeg) h E))
    · exact qfr_tr e_h (qfr_sub (qsub_c (List.mem_of_getElem? (i := 0) rfl) (qsub_c (List.mem_of_getElem? (i := 1) rfl) (qsub_c (List.mem_of_getElem? (i := 2) rfl) (qsub_c (List.mem_of_getElem? (i := 3) rfl) (qsub_c (List.mem_of_getElem? (i := 4) rfl) (qsub_c (List.mem_of_getElem? (i := 5) rfl) (qsub_c (List.mem_of_getElem? (i := 6) rfl) (qsub_c (List.mem_of_getElem? (i := 7) rfl) (qsub_c (List.mem_of_getElem? (i := 8) rfl) (qsub_c (List.mem_of_getElem? (i := 9) rfl) (qsub_c (List.mem_of_getElem? (i := 10) rfl) (qsub_c (List.mem_of_getElem? (i := 11) rfl) (qsub_c (List.mem_of_getElem? (i := 12) rfl) (qsub_c (List.mem_of_getElem? (i := 13) rfl) (qsub_c (List.mem_of_getElem? (i := 14) rfl) (qsub_c (List.mem_of_getElem? (i := 15) rfl) (qsub_c (List.mem_of_getElem? (i := 16) rfl) qsub_nil))))))))))))))))) (fr_X11_prepare_b41 0 h E))
theorem fr_X7_barredAt_b4 (x1 : Int32) (x2 : Int32) (x3 : Int32) (h : qa_M) {z : ((Int32 × Int32 × Int32 × qa_M) ⊕ (Int32 × qa_M))} (E : f_X7_barredAt_b4 x1 x2 x3 h = some z) : qfr wz h ((Sum.elim (fun z : Int32 × Int32 × Int32 × qa_M => z.2.2.2) (fun z : Int32 × qa_M => z.2)) z) := by
  unfold f_X7_barredAt_b4 at E
  have e_h : qfr wz h h := qfr_rf
  rcases qif_el E with E | E
  · refine qup_f (Q := fun z => qfr wz h ((Sum.elim (fun z : Int32 × Int32 × Int32 × qa_M => z.2.2.2) (fun z : Int32 × qa_M => z.2)) z)) E (fun rz E => ?_)
    exact qsome_f (Q := fun z => qfr wz h ((fun z : Int32 × qa_M => z.2) z)) E e_h
  · obtain ⟨-, E⟩ := qck_el E
    obtain ⟨v33, -, E⟩ := qbd_el E
    obtain ⟨v34, -, E⟩ := qbd_el E
    exact qsome_f (Q := fun z => qfr wz h ((Sum.elim (fun z : Int32 × Int32 × Int32 × qa_M => z.2.2.2) (fun z : Int32 × qa_M => z.2)) z)) E e_h
theorem fr_X7_barredAt_b4_loop (x1 : Int32) (x2 : Int32) (x3 : Int32) (h : qa_M) {z : (Int32 × qa_M)} (E : f_X7_barredAt_b4_loop x1 x2 x3 h = some z) : qfr wz h ((fun z : Int32 × qa_M => z.2) z) :=
  qlp_ind (fun sz : Int32 × Int32 × Int32 × qa_M => qfr wz (sz.2.2.2) ((fun z : Int32 × qa_M => z.2) z)) (fun sz E => fr_X7_barredAt_b4 sz.1 sz.2.1 sz.2.2.1 sz.2.2.2 E) (fun sz sz2 E ih => qfr_tr (fr_X7_barredAt_b4 sz.1 sz.2.1 sz.2.2.1 sz.2.2.2 E) ih) (x1, x2, x3, h) E
theorem fr_X7_barredAt (x1 : Int32) (h : qa_M) {z : (Int32 × qa_M)} (E : m_X7_barredAt x1 h = some z) : qfr wz h ((fun z : Int32 × qa_M => z.2) z) := by
  unfold m_X7_barredAt at E
  have e_h : qfr wz h h := qfr_rf
  obtain ⟨v1, -, E⟩ := qbd_el E
  obtain ⟨v3, -, E⟩ := qbd_el E
  exact qfr_tr e_h (qfr_sub qsub_nil (fr_X7_barredAt_b4_loop x1 v1 v3 h E))
def w_X11_square : List (Nat × Nat) := [(0, 15), (22, 5), (24, 0), (25, 0), (26, 0), (88, 0), (90, 0), (91, 0), (97, 0), (99, 0), (100, 0), (106, 0), (108, 0), (109, 0), (115, 0), (117, 0), (118, 0)]
theorem fr_X11_square (x1 : Int32) (x2 : Int32) (x3 : Int32) (h : qa_M) {z : (Int32 × qa_M)} (E : m_X11_square x1 x2 x3 h = some z) : qfr w_X11_square h ((fun z : Int32 × qa_M => z.2) z) := by
  unfold m_X11_square at E
  have e_h : qfr w_X11_square h h := qfr_rf
  obtain ⟨c13, h13, E0, E⟩ := qbn_el E
  have e_h13 := qfr_tr e_h (qfr_sub qsub_nil (fr_X3_holds x1 x2 h E0))
  rcases qif_el E with E | E
  · exact qsome_f (Q := fun z => qfr w_X11_square h ((fun z : Int32 × qa_M => z.2) z)) E e_h13
  · obtain ⟨v27, -, E⟩ := qbd_el E
    rcases qif_el E with E | E
    · rcases qif_el E with E | E
      · exact qsome_f (Q := fun z => qfr w_X11_square h ((fun z : Int32 × qa_M => z.2) z)) E e_h13
      · exact qsome_f (Q := fun z => qfr w_X11_square h ((fun z : Int32 × qa_M => z.2) z)) E e_h13
    · rcases qif_el E with E | E
      · obtain ⟨c93, h93, E0, E⟩ := qbn_el E
        have e_h93 := qfr_tr e_h13 (qfr_sub qsub_nil (fr_X3_hillOn 4 v27 h13 E0))
        exact qsome_f (Q := fun z => qfr w_X11_square h ((fun z : Int32 × qa_M => z.2) z)) E e_h93
      · rcases qif_el E with E | E
        · obtain ⟨c101, h101, E0, E⟩ := qbn_el E
          have e_h101 := qfr_tr e_h13 (qfr_sub qsub_nil (fr_X3_hillsThatSee v27 h13 E0))
          exact qsome_f (Q := fun z => qfr w_X11_square h ((fun z : Int32 × qa_M => z.2) z)) E e_h101
        · rcases qif_el E with E | E
          · obtain ⟨c109, h109, E0, E⟩ := qbn_el E
            have e_h109 := qfr_tr e_h13 (qfr_sub qsub_nil (fr_X3_roadsOf v27 h13 E0))
            exact qsome_f (Q := fun z => qfr w_X11_square h ((fun z : Int32 × qa_M => z.2) z)) E e_h109
          · rcases qif_el E with E | E
            · obtain ⟨c117, h117, E0, E⟩ := qbn_el E
              have e_h117 := qfr_tr e_h13 (qfr_sub qsub_nil (fr_X3_woodsBeside v27 h13 E0))
              exact qsome_f (Q := fun z => qfr w_X11_square h ((fun z : Int32 × qa_M => z.2) z)) E e_h117
            · rcases qif_el E with E | E
              · obtain ⟨h122, E0, E⟩ := qbv_el E
                have e_h122 := qfr_tr e_h13 (qfr_sub (qsub_c (List.mem_of_getElem? (i := 0) rfl) (qsub_c (List.mem_of_getElem? (i := 1) rfl) (qsub_c (List.mem_of_getElem? (i := 2) rfl) (qsub_c (List.mem_of_getElem? (i := 3) rfl) (qsub_c (List.mem_of_getElem? (i := 4) rfl) (qsub_c (List.mem_of_getElem? (i := 5) rfl) (qsub_c (List.mem_of_getElem? (i := 6) rfl) (qsub_c (List.mem_of_getElem? (i := 7) rfl) (qsub_c (List.mem_of_getElem? (i := 8) rfl) (qsub_c (List.mem_of_getElem? (i := 9) rfl) (qsub_c (List.mem_of_getElem? (i := 10) rfl) (qsub_c (List.mem_of_getElem? (i := 11) rfl) (qsub_c (List.mem_of_getElem? (i := 12) rfl) (qsub_c (List.mem_of_getElem? (i := 13) rfl) (qsub_c (List.mem_of_getElem? (i := 14) rfl) (qsub_c (List.mem_of_getElem? (i := 15) rfl) (qsub_c (List.mem_of_getElem? (i := 16) rfl) qsub_nil))))))))))))))))) (fr_X11_prepare h13 E0))
                obtain ⟨c131, h131, E0, E⟩ := qbn_el E
                have e_h131 := qfr_tr e_h122 (qfr_sub qsub_nil (fr_X7_barredAt v27 h122 E0))
                exact qsome_f (Q := fun z => qfr w_X11_square h ((fun z : Int32 × qa_M => z.2) z)) E e_h131
              · exact qsome_f (Q := fun z => qfr w_X11_square h ((fun z : Int32 × qa_M => z.2) z)) E e_h13
theorem fr_X11_sees (x1 : Int32) (h : qa_M) {z : (Int64 × qa_M)} (E : m_X11_sees x1 h = some z) : qfr wz h ((fun z : Int64 × qa_M => z.2) z) := by
  unfold m_X11_sees at E
  have e_h : qfr wz h h := qfr_rf
  obtain ⟨c11, h11, E0, E⟩ := qbn_el E
  have e_h11 := qfr_tr e_h (qfr_sub qsub_nil (fr_X11_within x1 (h.1 4 2) h E0))
  rcases qif_el E with E | E
  · exact qsome_f (Q := fun z => qfr wz h ((fun z : Int64 × qa_M => z.2) z)) E e_h11
  · obtain ⟨-, E⟩ := qck_el E
    exact qsome_f (Q := fun z => qfr wz h ((fun z : Int64 × qa_M => z.2) z)) E e_h11
theorem fr_X3_told (h : qa_M) {z : (Int32 × qa_M)} (E : m_X3_told h = some z) : qfr wz h ((fun z : Int32 × qa_M => z.2) z) := by
  unfold m_X3_told at E
  have e_h : qfr wz h h := qfr_rf
  rcases qif_el E with E | E
  · exact qsome_f (Q := fun z => qfr wz h ((fun z : Int32 × qa_M => z.2) z)) E e_h
  · exact qsome_f (Q := fun z => qfr wz h ((fun z : Int32 × qa_M => z.2) z)) E e_h
theorem fr_X11_hidden_b27 (x2 : Int64) (x4 : Int32) (h : qa_M) {z : ((Int64 × Int32 × qa_M) ⊕ (Int64 × qa_M))} (E : f_X11_hidden_b27 x2 x4 h = some z) : qfr wz h ((Sum.elim (fun z : Int64 × Int32 × qa_M => z.2.2) (fun z : Int64 × qa_M => z.2)) z) := by
  unfold f_X11_hidden_b27 at E
  have e_h : qfr wz h h := qfr_rf
  rcases qif_el E with E | E
  · refine qup_f (Q := fun z => qfr wz h ((Sum.elim (fun z : Int64 × Int32 × qa_M => z.2.2) (fun z : Int64 × qa_M => z.2)) z)) E (fun rz E => ?_)
    exact qsome_f (Q := fun z => qfr wz h ((fun z : Int64 × qa_M => z.2) z)) E e_h
  · obtain ⟨-, E⟩ := qck_el E
    obtain ⟨v49, -, E⟩ := qbd_el E
    obtain ⟨v50, -, E⟩ := qbd_el E
    exact qsome_f (Q := fun z => qfr wz h ((Sum.elim (fun z : Int64 × Int32 × qa_M => z.2.2) (fun z : Int64 × qa_M => z.2)) z)) E e_h
theorem fr_X11_hidden_b27_loop (x2 : Int64) (x4 : Int32) (h : qa_M) {z : (Int64 × qa_M)} (E : f_X11_hidden_b27_loop x2 x4 h = some z) : qfr wz h ((fun z : Int64 × qa_M => z.2) z) :=
  qlp_ind (fun sz : Int64 × Int32 × qa_M => qfr wz (sz.2.2) ((fun z : Int64 × qa_M => z.2) z)) (fun sz E => fr_X11_hidden_b27 sz.1 sz.2.1 sz.2.2 E) (fun sz sz2 E ih => qfr_tr (fr_X11_hidden_b27 sz.1 sz.2.1 sz.2.2 E) ih) (x2, x4, h) E
theorem fr_X11_hidden (h : qa_M) {z : (Int64 × qa_M)} (E : m_X11_hidden h = some z) : qfr wz h ((fun z : Int64 × qa_M => z.2) z) := by
  unfold m_X11_hidden at E
  have e_h : qfr wz h h := qfr_rf
  obtain ⟨c9, h9, E0, E⟩ := qbn_el E
  have e_h9 := qfr_tr e_h (qfr_sub qsub_nil (fr_X3_told h E0))
  rcases qif_el E with E | E
  · exact qsome_f (Q := fun z => qfr wz h ((fun z : Int64 × qa_M => z.2) z)) E e_h9
  · obtain ⟨v23, -, E⟩ := qbd_el E
    obtain ⟨v25, -, E⟩ := qbd_el E
    exact qfr_tr e_h9 (qfr_sub qsub_nil (fr_X11_hidden_b27_loop v23 v25 h9 E))
theorem fr_X8_fact (x1 : Int32) (x2 : Int32) (h : qa_M) {z : (Int32 × qa_M)} (E : m_X8_fact x1 x2 h = some z) : qfr wz h ((fun z : Int32 × qa_M => z.2) z) := by
  unfold m_X8_fact at E
  have e_h : qfr wz h h := qfr_rf
  obtain ⟨-, E⟩ := qck_el E
  exact qsome_f (Q := fun z => qfr wz h ((fun z : Int32 × qa_M => z.2) z)) E e_h
theorem fr_X11_notes (x1 : Int32) (x2 : Int32) (h : qa_M) {z : (Int32 × qa_M)} (E : m_X11_notes x1 x2 h = some z) : qfr wz h ((fun z : Int32 × qa_M => z.2) z) := by
  unfold m_X11_notes at E
  have e_h : qfr wz h h := qfr_rf
  obtain ⟨c8, h8, E0, E⟩ := qbn_el E
  have e_h8 := qfr_tr e_h (qfr_sub qsub_nil (fr_X11_within x1 (h.1 3 1) h E0))
  rcases qif_el E with E | E
  · exact qsome_f (Q := fun z => qfr wz h ((fun z : Int32 × qa_M => z.2) z)) E e_h8
  · obtain ⟨c16, h16, E0, E⟩ := qbn_el E
    have e_h16 := qfr_tr e_h8 (qfr_sub qsub_nil (fr_X11_within x2 (5 : Int32) h8 E0))
    rcases qif_el E with E | E
    · exact qsome_f (Q := fun z => qfr wz h ((fun z : Int32 × qa_M => z.2) z)) E e_h16
    · obtain ⟨c28, h28, E0, E⟩ := qbn_el E
      have e_h28 := qfr_tr e_h16 (qfr_sub qsub_nil (fr_X8_fact x1 x2 h16 E0))
      exact qsome_f (Q := fun z => qfr wz h ((fun z : Int32 × qa_M => z.2) z)) E e_h28
theorem fr_X11_known (x1 : Int32) (h : qa_M) {z : (Int32 × qa_M)} (E : m_X11_known x1 h = some z) : qfr wz h ((fun z : Int32 × qa_M => z.2) z) := by
  unfold m_X11_known at E
  have e_h : qfr wz h h := qfr_rf
  obtain ⟨c7, h7, E0, E⟩ := qbn_el E
  have e_h7 := qfr_tr e_h (qfr_sub qsub_nil (fr_X3_told h E0))
  rcases qif_el E with E | E
  · exact qsome_f (Q := fun z => qfr wz h ((fun z : Int32 × qa_M => z.2) z)) E e_h7
  · obtain ⟨c23, h23, E0, E⟩ := qbn_el E
    have e_h23 := qfr_tr e_h7 (qfr_sub qsub_nil (fr_X11_within x1 ((1 : Int32) <<< ((h7.1 3 1) &&& 31)) h7 E0))
    rcases qif_el E with E | E
    · exact qsome_f (Q := fun z => qfr wz h ((fun z : Int32 × qa_M => z.2) z)) E e_h23
    · exact qsome_f (Q := fun z => qfr wz h ((fun z : Int32 × qa_M => z.2) z)) E e_h23
theorem fr_X3_open (h : qa_M) {z : (Int64 × qa_M)} (E : m_X3_open h = some z) : qfr wz h ((fun z : Int64 × qa_M => z.2) z) := by
  unfold m_X3_open at E
  have e_h : qfr wz h h := qfr_rf
  exact qsome_f (Q := fun z => qfr wz h ((fun z : Int64 × qa_M => z.2) z)) E e_h
theorem fr_X8_sort (x1 : Int32) (h : qa_M) {z : (Int32 × qa_M)} (E : m_X8_sort x1 h = some z) : qfr wz h ((fun z : Int32 × qa_M => z.2) z) := by
  unfold m_X8_sort at E
  have e_h : qfr wz h h := qfr_rf
  obtain ⟨c3, h3, E0, E⟩ := qbn_el E
  have e_h3 := qfr_tr e_h (qfr_sub qsub_nil (fr_X8_fact x1 (3 : Int32) h E0))
  exact qsome_f (Q := fun z => qfr wz h ((fun z : Int32 × qa_M => z.2) z)) E e_h3
theorem fr_X8_sure (x1 : Int32) (h : qa_M) {z : (Int32 × qa_M)} (E : m_X8_sure x1 h = some z) : qfr wz h ((fun z : Int32 × qa_M => z.2) z) := by
  unfold m_X8_sure at E
  have e_h : qfr wz h h := qfr_rf
  obtain ⟨c3, h3, E0, E⟩ := qbn_el E
  have e_h3 := qfr_tr e_h (qfr_sub qsub_nil (fr_X8_fact x1 (4 : Int32) h E0))
  exact qsome_f (Q := fun z => qfr wz h ((fun z : Int32 × qa_M => z.2) z)) E e_h3
theorem fr_X8_region (x1 : Int32) (h : qa_M) {z : (Int64 × qa_M)} (E : m_X8_region x1 h = some z) : qfr wz h ((fun z : Int64 × qa_M => z.2) z) := by
  unfold m_X8_region at E
  have e_h : qfr wz h h := qfr_rf
  obtain ⟨c3, h3, E0, E⟩ := qbn_el E
  have e_h3 := qfr_tr e_h (qfr_sub qsub_nil (fr_X8_fact x1 (2 : Int32) h E0))
  obtain ⟨v6, -, E⟩ := qbd_el E
  obtain ⟨c10, h10, E0, E⟩ := qbn_el E
  have e_h10 := qfr_tr e_h3 (qfr_sub qsub_nil (fr_X8_fact x1 (1 : Int32) h3 E0))
  rcases qif_el E with E | E
  · obtain ⟨-, E⟩ := qck_el E
    exact qsome_f (Q := fun z => qfr wz h ((fun z : Int64 × qa_M => z.2) z)) E e_h10
  · obtain ⟨-, E⟩ := qck_el E
    exact qsome_f (Q := fun z => qfr wz h ((fun z : Int64 × qa_M => z.2) z)) E e_h10
def wf_X7_heed_b52 : List (Nat × Nat) := [(22, 9), (28, 0), (29, 0), (30, 0)]
theorem fr_X7_heed_b52 (x1 : Int32) (x2 : Int32) (x3 : Int64) (x5 : Int32) (h : qa_M) {z : qa_M} (E : f_X7_heed_b52 x1 x2 x3 x5 h = some z) : qfr wf_X7_heed_b52 h ((fun z : qa_M => z) z) := by
  unfold f_X7_heed_b52 at E
  have e_h : qfr wf_X7_heed_b52 h h := qfr_rf
  rcases qif_el E with E | E
  · exact qsome_f (Q := fun z => qfr wf_X7_heed_b52 h ((fun z : qa_M => z) z)) E e_h
  · rcases qif_el E with E | E
    · exact qsome_f (Q := fun z => qfr wf_X7_heed_b52 h ((fun z : qa_M => z) z)) E e_h
    · obtain ⟨-, E⟩ := qck_el E
      obtain ⟨h76, q_h76, E⟩ := qbd_el E
      have e_h76 := qfr_J0 q_h76 (List.mem_of_getElem? (i := 1) rfl) e_h
      obtain ⟨-, E⟩ := qck_el E
      obtain ⟨h86, q_h86, E⟩ := qbd_el E
      have e_h86 := qfr_I0 q_h86 (List.mem_of_getElem? (i := 2) rfl) e_h76
      obtain ⟨-, E⟩ := qck_el E
      obtain ⟨h96, q_h96, E⟩ := qbd_el E
      have e_h96 := qfr_I0 q_h96 (List.mem_of_getElem? (i := 3) rfl) e_h86
      obtain ⟨h104, q_h104, E⟩ := qbd_el E
      have e_h104 := qfr_Ik q_h104 (List.mem_of_getElem? (i := 0) rfl) e_h96
      exact qsome_f (Q := fun z => qfr wf_X7_heed_b52 h ((fun z : qa_M => z) z)) E e_h104
def w_X7_heed : List (Nat × Nat) := [(22, 8), (22, 9), (27, 0), (28, 0), (29, 0), (30, 0)]
theorem fr_X7_heed (x1 : Int32) (x2 : Int32) (x3 : Int64) (h : qa_M) {z : qa_M} (E : m_X7_heed x1 x2 x3 h = some z) : qfr w_X7_heed h ((fun z : qa_M => z) z) := by
  unfold m_X7_heed at E
  have e_h : qfr w_X7_heed h h := qfr_rf
  obtain ⟨-, E⟩ := qck_el E
  obtain ⟨v12, -, E⟩ := qbd_el E
  rcases qif_el E with E | E
  · obtain ⟨-, E⟩ := qck_el E
    obtain ⟨-, E⟩ := qck_el E
    obtain ⟨h31, q_h31, E⟩ := qbd_el E
    have e_h31 := qfr_J0 q_h31 (List.mem_of_getElem? (i := 2) rfl) e_h
    exact qsome_f (Q := fun z => qfr w_X7_heed h ((fun z : qa_M => z) z)) E e_h31
  · rcases qif_el E with E | E
    · exact qfr_tr e_h (qfr_sub (qsub_c (List.mem_of_getElem? (i := 1) rfl) (qsub_c (List.mem_of_getElem? (i := 3) rfl) (qsub_c (List.mem_of_getElem? (i := 4) rfl) (qsub_c (List.mem_of_getElem? (i := 5) rfl) qsub_nil)))) (fr_X7_heed_b52 x1 x2 x3 v12 h E))
    · rcases qif_el E with E | E
      · obtain ⟨h46, q_h46, E⟩ := qbd_el E
        have e_h46 := qfr_Ik q_h46 (List.mem_of_getElem? (i := 0) rfl) e_h
        exact qsome_f (Q := fun z => qfr w_X7_heed h ((fun z : qa_M => z) z)) E e_h46
      · exact qfr_tr e_h (qfr_sub (qsub_c (List.mem_of_getElem? (i := 1) rfl) (qsub_c (List.mem_of_getElem? (i := 3) rfl) (qsub_c (List.mem_of_getElem? (i := 4) rfl) (qsub_c (List.mem_of_getElem? (i := 5) rfl) qsub_nil)))) (fr_X7_heed_b52 x1 x2 x3 v12 h E))
theorem fr_X7_roomByNotes_b149 (x4 : Int64) (x6 : Int32) (x7 : Int32) (x8 : Int64) (x10 : Int32) (h : qa_M) {z : ((Int64 × Int32 × Int32 × Int64 × Int32 × qa_M) ⊕ (Int64 × qa_M))} (E : f_X7_roomByNotes_b149 x4 x6 x7 x8 x10 h = some z) : qfr wz h ((Sum.elim (fun z : Int64 × Int32 × Int32 × Int64 × Int32 × qa_M => z.2.2.2.2.2) (fun z : Int64 × qa_M => z.2)) z) := by
  unfold f_X7_roomByNotes_b149 at E
  have e_h : qfr wz h h := qfr_rf
  obtain ⟨v149, -, E⟩ := qbd_el E
  exact qsome_f (Q := fun z => qfr wz h ((Sum.elim (fun z : Int64 × Int32 × Int32 × Int64 × Int32 × qa_M => z.2.2.2.2.2) (fun z : Int64 × qa_M => z.2)) z)) E e_h
theorem fr_X7_roomByNotes_b121 (x4 : Int64) (x6 : Int32) (x7 : Int32) (x10 : Int32) (s0 : Int64) (s1 : Int64) (h : qa_M) {z : ((Int64 × Int32 × Int32 × Int64 × Int32 × qa_M) ⊕ (Int64 × qa_M))} (E : f_X7_roomByNotes_b121 x4 x6 x7 x10 s0 s1 h = some z) : qfr wz h ((Sum.elim (fun z : Int64 × Int32 × Int32 × Int64 × Int32 × qa_M => z.2.2.2.2.2) (fun z : Int64 × qa_M => z.2)) z) := by
  unfold f_X7_roomByNotes_b121 at E
  have e_h : qfr wz h h := qfr_rf
  obtain ⟨v122, -, E⟩ := qbd_el E
  exact qfr_tr e_h (qfr_sub qsub_nil (fr_X7_roomByNotes_b149 x4 x6 x7 v122 x10 h E))
theorem fr_X7_roomByNotes_b44 (x4 : Int64) (x6 : Int32) (x7 : Int32) (x8 : Int64) (x10 : Int32) (h : qa_M) {z : ((Int64 × Int32 × Int32 × Int64 × Int32 × qa_M) ⊕ (Int64 × qa_M))} (E : f_X7_roomByNotes_b44 x4 x6 x7 x8 x10 h = some z) : qfr wz h ((Sum.elim (fun z : Int64 × Int32 × Int32 × Int64 × Int32 × qa_M => z.2.2.2.2.2) (fun z : Int64 × qa_M => z.2)) z) := by
  unfold f_X7_roomByNotes_b44 at E
  have e_h : qfr wz h h := qfr_rf
  rcases qif_el E with E | E
  · refine qup_f (Q := fun z => qfr wz h ((Sum.elim (fun z : Int64 × Int32 × Int32 × Int64 × Int32 × qa_M => z.2.2.2.2.2) (fun z : Int64 × qa_M => z.2)) z)) E (fun rz E => ?_)
    exact qsome_f (Q := fun z => qfr wz h ((fun z : Int64 × qa_M => z.2) z)) E e_h
  · obtain ⟨-, E⟩ := qck_el E
    rcases qif_el E with E | E
    · obtain ⟨-, E⟩ := qck_el E
      obtain ⟨c75, h75, E0, E⟩ := qbn_el E
      have e_h75 := qfr_tr e_h (qfr_sub qsub_nil (fr_J13_bitCount_95d88 ((h.2.1 28 x10.toNatClampNeg) &&& x4) h E0))
      obtain ⟨v78, -, E⟩ := qbd_el E
      obtain ⟨-, E⟩ := qck_el E
      rcases qif_el E with E | E
      · rcases qif_el E with E | E
        · exact qfr_tr e_h75 (qfr_sub qsub_nil (fr_X7_roomByNotes_b149 x4 x6 x7 x8 x10 h75 E))
        · rcases qif_el E with E | E
          · obtain ⟨-, E⟩ := qck_el E
            obtain ⟨v147, -, E⟩ := qbd_el E
            exact qfr_tr e_h75 (qfr_sub qsub_nil (fr_X7_roomByNotes_b149 x4 x6 x7 v147 x10 h75 E))
          · exact qfr_tr e_h75 (qfr_sub qsub_nil (fr_X7_roomByNotes_b149 x4 x6 x7 x8 x10 h75 E))
      · obtain ⟨-, E⟩ := qck_el E
        rcases qif_el E with E | E
        · exact qfr_tr e_h75 (qfr_sub qsub_nil (fr_X7_roomByNotes_b121 x4 x6 x7 x10 x8 (-1 : Int64) h75 E))
        · obtain ⟨-, E⟩ := qck_el E
          exact qfr_tr e_h75 (qfr_sub qsub_nil (fr_X7_roomByNotes_b121 x4 x6 x7 x10 x8 ((h75.2.1 28 x10.toNatClampNeg) ^^^ (-1 : Int64)) h75 E))
    · exact qfr_tr e_h (qfr_sub qsub_nil (fr_X7_roomByNotes_b149 x4 x6 x7 x8 x10 h E))
theorem fr_X7_roomByNotes_b44_loop (x4 : Int64) (x6 : Int32) (x7 : Int32) (x8 : Int64) (x10 : Int32) (h : qa_M) {z : (Int64 × qa_M)} (E : f_X7_roomByNotes_b44_loop x4 x6 x7 x8 x10 h = some z) : qfr wz h ((fun z : Int64 × qa_M => z.2) z) :=
  qlp_ind (fun sz : Int64 × Int32 × Int32 × Int64 × Int32 × qa_M => qfr wz (sz.2.2.2.2.2) ((fun z : Int64 × qa_M => z.2) z)) (fun sz E => fr_X7_roomByNotes_b44 sz.1 sz.2.1 sz.2.2.1 sz.2.2.2.1 sz.2.2.2.2.1 sz.2.2.2.2.2 E) (fun sz sz2 E ih => qfr_tr (fr_X7_roomByNotes_b44 sz.1 sz.2.1 sz.2.2.1 sz.2.2.2.1 sz.2.2.2.2.1 sz.2.2.2.2.2 E) ih) (x4, x6, x7, x8, x10, h) E
theorem fr_X7_roomByNotes_b36 (x1 : Int64) (x4 : Int64) (x6 : Int32) (s0 : Int32) (h : qa_M) {z : (Int64 × qa_M)} (E : f_X7_roomByNotes_b36 x1 x4 x6 s0 h = some z) : qfr wz h ((fun z : Int64 × qa_M => z.2) z) := by
  unfold f_X7_roomByNotes_b36 at E
  have e_h : qfr wz h h := qfr_rf
  obtain ⟨v36, -, E⟩ := qbd_el E
  obtain ⟨v39, -, E⟩ := qbd_el E
  obtain ⟨v42, -, E⟩ := qbd_el E
  exact qfr_tr e_h (qfr_sub qsub_nil (fr_X7_roomByNotes_b44_loop x4 x6 v36 v39 v42 h E))
theorem fr_X7_roomByNotes_b31 (x1 : Int64) (x4 : Int64) (x6 : Int32) (h : qa_M) {z : (Int64 × qa_M)} (E : f_X7_roomByNotes_b31 x1 x4 x6 h = some z) : qfr wz h ((fun z : Int64 × qa_M => z.2) z) := by
  unfold f_X7_roomByNotes_b31 at E
  have e_h : qfr wz h h := qfr_rf
  exact qfr_tr e_h (qfr_sub qsub_nil (fr_X7_roomByNotes_b36 x1 x4 x6 (1 : Int32) h E))
theorem fr_X7_roomByNotes (x1 : Int64) (x3 : Int32) (x4 : Int64) (h : qa_M) {z : (Int64 × qa_M)} (E : m_X7_roomByNotes x1 x3 x4 h = some z) : qfr wz h ((fun z : Int64 × qa_M => z.2) z) := by
  unfold m_X7_roomByNotes at E
  have e_h : qfr wz h h := qfr_rf
  obtain ⟨-, E⟩ := qck_el E
  obtain ⟨v6, -, E⟩ := qbd_el E
  rcases qif_el E with E | E
  · exact qfr_tr e_h (qfr_sub qsub_nil (fr_X7_roomByNotes_b31 x1 x4 v6 h E))
  · obtain ⟨-, E⟩ := qck_el E
    rcases qif_el E with E | E
    · exact qfr_tr e_h (qfr_sub qsub_nil (fr_X7_roomByNotes_b36 x1 x4 v6 (0 : Int32) h E))
    · exact qfr_tr e_h (qfr_sub qsub_nil (fr_X7_roomByNotes_b31 x1 x4 v6 h E))
theorem fr_X7_room_b131 (x3 : Int64) (h : qa_M) {z : (Int64 × qa_M)} (E : f_X7_room_b131 x3 h = some z) : qfr wz h ((fun z : Int64 × qa_M => z.2) z) := by
  unfold f_X7_room_b131 at E
  have e_h : qfr wz h h := qfr_rf
  exact qsome_f (Q := fun z => qfr wz h ((fun z : Int64 × qa_M => z.2) z)) E e_h
theorem fr_X7_room_b118 (x1 : Int32) (x3 : Int64) (x5 : Int64) (h : qa_M) {z : (Int64 × qa_M)} (E : f_X7_room_b118 x1 x3 x5 h = some z) : qfr wz h ((fun z : Int64 × qa_M => z.2) z) := by
  unfold f_X7_room_b118 at E
  have e_h : qfr wz h h := qfr_rf
  rcases qif_el E with E | E
  · exact qfr_tr e_h (qfr_sub qsub_nil (fr_X7_room_b131 x3 h E))
  · rcases qif_el E with E | E
    · exact qfr_tr e_h (qfr_sub qsub_nil (fr_X7_room_b131 x3 h E))
    · obtain ⟨c140, h140, E0, E⟩ := qbn_el E
      have e_h140 := qfr_tr e_h (qfr_sub qsub_nil (fr_X7_roomByNotes x3 x1 x5 h E0))
      exact qsome_f (Q := fun z => qfr wz h ((fun z : Int64 × qa_M => z.2) z)) E e_h140
theorem fr_X7_room_b96 (x1 : Int32) (x3 : Int64) (x5 : Int64) (h : qa_M) {z : (Int64 × qa_M)} (E : f_X7_room_b96 x1 x3 x5 h = some z) : qfr wz h ((fun z : Int64 × qa_M => z.2) z) := by
  unfold f_X7_room_b96 at E
  have e_h : qfr wz h h := qfr_rf
  rcases qif_el E with E | E
  · exact qfr_tr e_h (qfr_sub qsub_nil (fr_X7_room_b118 x1 x3 x5 h E))
  · obtain ⟨-, E⟩ := qck_el E
    obtain ⟨v117, -, E⟩ := qbd_el E
    exact qfr_tr e_h (qfr_sub qsub_nil (fr_X7_room_b118 x1 v117 x5 h E))
theorem fr_X7_room_b90 (x1 : Int32) (x2 : Int32) (x3 : Int64) (x5 : Int64) (x7 : Int32) (h : qa_M) {z : ((Int32 × Int32 × Int64 × Int64 × Int32 × qa_M) ⊕ (Int64 × qa_M))} (E : f_X7_room_b90 x1 x2 x3 x5 x7 h = some z) : qfr wz h ((Sum.elim (fun z : Int32 × Int32 × Int64 × Int64 × Int32 × qa_M => z.2.2.2.2.2) (fun z : Int64 × qa_M => z.2)) z) := by
  unfold f_X7_room_b90 at E
  have e_h : qfr wz h h := qfr_rf
  obtain ⟨v90, -, E⟩ := qbd_el E
  exact qsome_f (Q := fun z => qfr wz h ((Sum.elim (fun z : Int32 × Int32 × Int64 × Int64 × Int32 × qa_M => z.2.2.2.2.2) (fun z : Int64 × qa_M => z.2)) z)) E e_h
theorem fr_X7_room_b20 (x1 : Int32) (x2 : Int32) (x3 : Int64) (x5 : Int64) (x7 : Int32) (h : qa_M) {z : ((Int32 × Int32 × Int64 × Int64 × Int32 × qa_M) ⊕ (Int64 × qa_M))} (E : f_X7_room_b20 x1 x2 x3 x5 x7 h = some z) : qfr wz h ((Sum.elim (fun z : Int32 × Int32 × Int64 × Int64 × Int32 × qa_M => z.2.2.2.2.2) (fun z : Int64 × qa_M => z.2)) z) := by
  unfold f_X7_room_b20 at E
  have e_h : qfr wz h h := qfr_rf
  rcases qif_el E with E | E
  · refine qup_f (Q := fun z => qfr wz h ((Sum.elim (fun z : Int32 × Int32 × Int64 × Int64 × Int32 × qa_M => z.2.2.2.2.2) (fun z : Int64 × qa_M => z.2)) z)) E (fun rz E => ?_)
    exact qfr_tr e_h (qfr_sub qsub_nil (fr_X7_room_b96 x1 x3 x5 h E))
  · obtain ⟨-, E⟩ := qck_el E
    obtain ⟨-, E⟩ := qck_el E
    obtain ⟨-, E⟩ := qck_el E
    obtain ⟨-, E⟩ := qck_el E
    obtain ⟨v64, -, E⟩ := qbd_el E
    obtain ⟨-, E⟩ := qck_el E
    rcases qif_el E with E | E
    · obtain ⟨-, E⟩ := qck_el E
      obtain ⟨v88, -, E⟩ := qbd_el E
      exact qfr_tr e_h (qfr_sub qsub_nil (fr_X7_room_b90 x1 x2 v64 v88 x7 h E))
    · exact qfr_tr e_h (qfr_sub qsub_nil (fr_X7_room_b90 x1 x2 v64 x5 x7 h E))
theorem fr_X7_room_b20_loop (x1 : Int32) (x2 : Int32) (x3 : Int64) (x5 : Int64) (x7 : Int32) (h : qa_M) {z : (Int64 × qa_M)} (E : f_X7_room_b20_loop x1 x2 x3 x5 x7 h = some z) : qfr wz h ((fun z : Int64 × qa_M => z.2) z) :=
  qlp_ind (fun sz : Int32 × Int32 × Int64 × Int64 × Int32 × qa_M => qfr wz (sz.2.2.2.2.2) ((fun z : Int64 × qa_M => z.2) z)) (fun sz E => fr_X7_room_b20 sz.1 sz.2.1 sz.2.2.1 sz.2.2.2.1 sz.2.2.2.2.1 sz.2.2.2.2.2 E) (fun sz sz2 E ih => qfr_tr (fr_X7_room_b20 sz.1 sz.2.1 sz.2.2.1 sz.2.2.2.1 sz.2.2.2.2.1 sz.2.2.2.2.2 E) ih) (x1, x2, x3, x5, x7, h) E
theorem fr_X7_room (x1 : Int32) (h : qa_M) {z : (Int64 × qa_M)} (E : m_X7_room x1 h = some z) : qfr wz h ((fun z : Int64 × qa_M => z.2) z) := by
  unfold m_X7_room at E
  have e_h : qfr wz h h := qfr_rf
  obtain ⟨-, E⟩ := qck_el E
  obtain ⟨v6, -, E⟩ := qbd_el E
  obtain ⟨-, E⟩ := qck_el E
  obtain ⟨v13, -, E⟩ := qbd_el E
  obtain ⟨v15, -, E⟩ := qbd_el E
  obtain ⟨v18, -, E⟩ := qbd_el E
  exact qfr_tr e_h (qfr_sub qsub_nil (fr_X7_room_b20_loop x1 v6 v13 v15 v18 h E))
def wf_X7_start_b152 : List (Nat × Nat) := [(32, 0)]
theorem fr_X7_start_b152 (s1 : Int32) (s2 : Int64) (h : qa_M) {z : qa_M} (E : f_X7_start_b152 s1 s2 h = some z) : qfr wf_X7_start_b152 h ((fun z : qa_M => z) z) := by
  unfold f_X7_start_b152 at E
  have e_h : qfr wf_X7_start_b152 h h := qfr_rf
  obtain ⟨-, E⟩ := qck_el E
  obtain ⟨h152, q_h152, E⟩ := qbd_el E
  have e_h152 := qfr_J0 q_h152 (List.mem_of_getElem? (i := 0) rfl) e_h
  exact qsome_f (Q := fun z => qfr wf_X7_start_b152 h ((fun z : qa_M => z) z)) E e_h152
def wf_X7_start_b112 : List (Nat × Nat) := [(32, 0)]
theorem fr_X7_start_b112 (h : qa_M) {z : qa_M} (E : f_X7_start_b112 h = some z) : qfr wf_X7_start_b112 h ((fun z : qa_M => z) z) := by
  unfold f_X7_start_b112 at E
  have e_h : qfr wf_X7_start_b112 h h := qfr_rf
  rcases qif_el E with E | E
  · rcases qif_el E with E | E
    · exact qfr_tr e_h (qfr_sub (qsub_c (List.mem_of_getElem? (i := 0) rfl) qsub_nil) (fr_X7_start_b152 (0 : Int32) (4611686018427387904 : Int64) h E))
    · obtain ⟨c149, h149, E0, E⟩ := qbn_el E
      have e_h149 := qfr_tr e_h (qfr_sub qsub_nil (fr_X7_room (0 : Int32) h E0))
      exact qfr_tr e_h149 (qfr_sub (qsub_c (List.mem_of_getElem? (i := 0) rfl) qsub_nil) (fr_X7_start_b152 (0 : Int32) c149 h149 E))
  · obtain ⟨-, E⟩ := qck_el E
    obtain ⟨h125, q_h125, E⟩ := qbd_el E
    have e_h125 := qfr_J0 q_h125 (List.mem_of_getElem? (i := 0) rfl) e_h
    exact qsome_f (Q := fun z => qfr wf_X7_start_b112 h ((fun z : qa_M => z) z)) E e_h125
theorem fr_X7_start_b106 (x1 : Int32) (x3 : Int32) (h : qa_M) {z : ((Int32 × Int32 × qa_M) ⊕ qa_M)} (E : f_X7_start_b106 x1 x3 h = some z) : qfr wz h ((Sum.elim (fun z : Int32 × Int32 × qa_M => z.2.2) (fun z : qa_M => z)) z) := by
  unfold f_X7_start_b106 at E
  have e_h : qfr wz h h := qfr_rf
  obtain ⟨v106, -, E⟩ := qbd_el E
  exact qsome_f (Q := fun z => qfr wz h ((Sum.elim (fun z : Int32 × Int32 × qa_M => z.2.2) (fun z : qa_M => z)) z)) E e_h
def wf_X7_start_b59 : List (Nat × Nat) := [(22, 8), (22, 9), (27, 0), (28, 0), (29, 0), (30, 0), (32, 0)]
theorem fr_X7_start_b59 (x1 : Int32) (x3 : Int32) (h : qa_M) {z : ((Int32 × Int32 × qa_M) ⊕ qa_M)} (E : f_X7_start_b59 x1 x3 h = some z) : qfr wf_X7_start_b59 h ((Sum.elim (fun z : Int32 × Int32 × qa_M => z.2.2) (fun z : qa_M => z)) z) := by
  unfold f_X7_start_b59 at E
  have e_h : qfr wf_X7_start_b59 h h := qfr_rf
  rcases qif_el E with E | E
  · refine qup_f (Q := fun z => qfr wf_X7_start_b59 h ((Sum.elim (fun z : Int32 × Int32 × qa_M => z.2.2) (fun z : qa_M => z)) z)) E (fun rz E => ?_)
    exact qfr_tr e_h (qfr_sub (qsub_c (List.mem_of_getElem? (i := 6) rfl) qsub_nil) (fr_X7_start_b112 h E))
  · rcases qif_el E with E | E
    · exact qfr_tr e_h (qfr_sub qsub_nil (fr_X7_start_b106 x1 x3 h E))
    · obtain ⟨c84, h84, E0, E⟩ := qbn_el E
      have e_h84 := qfr_tr e_h (qfr_sub qsub_nil (fr_X8_sort x3 h E0))
      obtain ⟨c92, h92, E0, E⟩ := qbn_el E
      have e_h92 := qfr_tr e_h84 (qfr_sub qsub_nil (fr_X8_sure x3 h84 E0))
      obtain ⟨c100, h100, E0, E⟩ := qbn_el E
      have e_h100 := qfr_tr e_h92 (qfr_sub qsub_nil (fr_X8_region x3 h92 E0))
      obtain ⟨h103, E0, E⟩ := qbv_el E
      have e_h103 := qfr_tr e_h100 (qfr_sub (qsub_c (List.mem_of_getElem? (i := 0) rfl) (qsub_c (List.mem_of_getElem? (i := 1) rfl) (qsub_c (List.mem_of_getElem? (i := 2) rfl) (qsub_c (List.mem_of_getElem? (i := 3) rfl) (qsub_c (List.mem_of_getElem? (i := 4) rfl) (qsub_c (List.mem_of_getElem? (i := 5) rfl) qsub_nil)))))) (fr_X7_heed c84 c92 c100 h100 E0))
      exact qfr_tr e_h103 (qfr_sub qsub_nil (fr_X7_start_b106 x1 x3 h103 E))
theorem fr_X7_start_b59_loop (x1 : Int32) (x3 : Int32) (h : qa_M) {z : qa_M} (E : f_X7_start_b59_loop x1 x3 h = some z) : qfr wf_X7_start_b59 h ((fun z : qa_M => z) z) :=
  qlp_ind (fun sz : Int32 × Int32 × qa_M => qfr wf_X7_start_b59 (sz.2.2) ((fun z : qa_M => z) z)) (fun sz E => fr_X7_start_b59 sz.1 sz.2.1 sz.2.2 E) (fun sz sz2 E ih => qfr_tr (fr_X7_start_b59 sz.1 sz.2.1 sz.2.2 E) ih) (x1, x3, h) E
def wf_X7_start_b57 : List (Nat × Nat) := [(22, 8), (22, 9), (27, 0), (28, 0), (29, 0), (30, 0), (32, 0)]
theorem fr_X7_start_b57 (x1 : Int32) (h : qa_M) {z : qa_M} (E : f_X7_start_b57 x1 h = some z) : qfr wf_X7_start_b57 h ((fun z : qa_M => z) z) := by
  unfold f_X7_start_b57 at E
  have e_h : qfr wf_X7_start_b57 h h := qfr_rf
  obtain ⟨v58, -, E⟩ := qbd_el E
  exact qfr_tr e_h (qfr_sub (qsub_c (List.mem_of_getElem? (i := 0) rfl) (qsub_c (List.mem_of_getElem? (i := 1) rfl) (qsub_c (List.mem_of_getElem? (i := 2) rfl) (qsub_c (List.mem_of_getElem? (i := 3) rfl) (qsub_c (List.mem_of_getElem? (i := 4) rfl) (qsub_c (List.mem_of_getElem? (i := 5) rfl) (qsub_c (List.mem_of_getElem? (i := 6) rfl) qsub_nil))))))) (fr_X7_start_b59_loop x1 v58 h E))
def wf_X7_start_b25 : List (Nat × Nat) := [(22, 8), (22, 9), (27, 0), (28, 0), (29, 0), (30, 0), (32, 0)]
theorem fr_X7_start_b25 (x1 : Int32) (x3 : Int32) (h : qa_M) {z : ((Int32 × Int32 × qa_M) ⊕ qa_M)} (E : f_X7_start_b25 x1 x3 h = some z) : qfr wf_X7_start_b25 h ((Sum.elim (fun z : Int32 × Int32 × qa_M => z.2.2) (fun z : qa_M => z)) z) := by
  unfold f_X7_start_b25 at E
  have e_h : qfr wf_X7_start_b25 h h := qfr_rf
  rcases qif_el E with E | E
  · refine qup_f (Q := fun z => qfr wf_X7_start_b25 h ((Sum.elim (fun z : Int32 × Int32 × qa_M => z.2.2) (fun z : qa_M => z)) z)) E (fun rz E => ?_)
    exact qfr_tr e_h (qfr_sub (qsub_c (List.mem_of_getElem? (i := 0) rfl) (qsub_c (List.mem_of_getElem? (i := 1) rfl) (qsub_c (List.mem_of_getElem? (i := 2) rfl) (qsub_c (List.mem_of_getElem? (i := 3) rfl) (qsub_c (List.mem_of_getElem? (i := 4) rfl) (qsub_c (List.mem_of_getElem? (i := 5) rfl) (qsub_c (List.mem_of_getElem? (i := 6) rfl) qsub_nil))))))) (fr_X7_start_b57 x1 h E))
  · obtain ⟨c36, h36, E0, E⟩ := qbn_el E
    have e_h36 := qfr_tr e_h (qfr_sub qsub_nil (fr_X3_open h E0))
    obtain ⟨-, E⟩ := qck_el E
    obtain ⟨-, E⟩ := qck_el E
    obtain ⟨h50, q_h50, E⟩ := qbd_el E
    have e_h50 := qfr_J0 q_h50 (List.mem_of_getElem? (i := 2) rfl) e_h36
    obtain ⟨v51, -, E⟩ := qbd_el E
    exact qsome_f (Q := fun z => qfr wf_X7_start_b25 h ((Sum.elim (fun z : Int32 × Int32 × qa_M => z.2.2) (fun z : qa_M => z)) z)) E e_h50
theorem fr_X7_start_b25_loop (x1 : Int32) (x3 : Int32) (h : qa_M) {z : qa_M} (E : f_X7_start_b25_loop x1 x3 h = some z) : qfr wf_X7_start_b25 h ((fun z : qa_M => z) z) :=
  qlp_ind (fun sz : Int32 × Int32 × qa_M => qfr wf_X7_start_b25 (sz.2.2) ((fun z : qa_M => z) z)) (fun sz E => fr_X7_start_b25 sz.1 sz.2.1 sz.2.2 E) (fun sz sz2 E ih => qfr_tr (fr_X7_start_b25 sz.1 sz.2.1 sz.2.2 E) ih) (x1, x3, h) E
def w_X7_start : List (Nat × Nat) := [(22, 8), (22, 9), (22, 13), (27, 0), (28, 0), (29, 0), (30, 0), (32, 0)]
theorem fr_X7_start (x1 : Int32) (h : qa_M) {z : qa_M} (E : m_X7_start x1 h = some z) : qfr w_X7_start h ((fun z : qa_M => z) z) := by
  unfold m_X7_start at E
  have e_h : qfr w_X7_start h h := qfr_rf
  obtain ⟨h10, q_h10, E⟩ := qbd_el E
  have e_h10 := qfr_Ik q_h10 (List.mem_of_getElem? (i := 0) rfl) e_h
  obtain ⟨h15, q_h15, E⟩ := qbd_el E
  have e_h15 := qfr_Ik q_h15 (List.mem_of_getElem? (i := 1) rfl) e_h10
  obtain ⟨h20, q_h20, E⟩ := qbd_el E
  have e_h20 := qfr_Ik q_h20 (List.mem_of_getElem? (i := 2) rfl) e_h15
  obtain ⟨v24, -, E⟩ := qbd_el E
  exact qfr_tr e_h20 (qfr_sub (qsub_c (List.mem_of_getElem? (i := 0) rfl) (qsub_c (List.mem_of_getElem? (i := 1) rfl) (qsub_c (List.mem_of_getElem? (i := 3) rfl) (qsub_c (List.mem_of_getElem? (i := 4) rfl) (qsub_c (List.mem_of_getElem? (i := 5) rfl) (qsub_c (List.mem_of_getElem? (i := 6) rfl) (qsub_c (List.mem_of_getElem? (i := 7) rfl) qsub_nil))))))) (fr_X7_start_b25_loop x1 v24 h20 E))
theorem fr_X2_lowest (x0 : Int64) (h : qa_M) {z : (Int32 × qa_M)} (E : m_X2_lowest x0 h = some z) : qfr wz h ((fun z : Int32 × qa_M => z.2) z) := by
  unfold m_X2_lowest at E
  have e_h : qfr wz h h := qfr_rf
  obtain ⟨c6, h6, E0, E⟩ := qbn_el E
  have e_h6 := qfr_tr e_h (qfr_sub qsub_nil (fr_J13_bitCount_95d88 ((x0 &&& (-x0)) - (1 : Int64)) h E0))
  exact qsome_f (Q := fun z => qfr wz h ((fun z : Int32 × qa_M => z.2) z)) E e_h6
theorem fr_X7_step_b175 (x1 : Int32) (h : qa_M) {z : ((Int32 × qa_M) ⊕ (Int32 × qa_M))} (E : f_X7_step_b175 x1 h = some z) : qfr wz h ((Sum.elim (fun z : Int32 × qa_M => z.2) (fun z : Int32 × qa_M => z.2)) z) := by
  unfold f_X7_step_b175 at E
  have e_h : qfr wz h h := qfr_rf
  obtain ⟨v175, -, E⟩ := qbd_el E
  exact qsome_f (Q := fun z => qfr wz h ((Sum.elim (fun z : Int32 × qa_M => z.2) (fun z : Int32 × qa_M => z.2)) z)) E e_h
def wf_X7_step_b146 : List (Nat × Nat) := [(22, 16)]
theorem fr_X7_step_b146 (x4 : Int64) (h : qa_M) {z : (Int32 × qa_M)} (E : f_X7_step_b146 x4 h = some z) : qfr wf_X7_step_b146 h ((fun z : Int32 × qa_M => z.2) z) := by
  unfold f_X7_step_b146 at E
  have e_h : qfr wf_X7_step_b146 h h := qfr_rf
  obtain ⟨h149, q_h149, E⟩ := qbd_el E
  have e_h149 := qfr_Jk q_h149 (List.mem_of_getElem? (i := 0) rfl) e_h
  exact qsome_f (Q := fun z => qfr wf_X7_step_b146 h ((fun z : Int32 × qa_M => z.2) z)) E e_h149
def wf_X7_step_b42 : List (Nat × Nat) := [(22, 13), (22, 16), (31, 0), (32, 0)]
theorem fr_X7_step_b42 (x1 : Int32) (h : qa_M) {z : ((Int32 × qa_M) ⊕ (Int32 × qa_M))} (E : f_X7_step_b42 x1 h = some z) : qfr wf_X7_step_b42 h ((Sum.elim (fun z : Int32 × qa_M => z.2) (fun z : Int32 × qa_M => z.2)) z) := by
  unfold f_X7_step_b42 at E
  have e_h : qfr wf_X7_step_b42 h h := qfr_rf
  rcases qif_el E with E | E
  · refine qup_f (Q := fun z => qfr wf_X7_step_b42 h ((Sum.elim (fun z : Int32 × qa_M => z.2) (fun z : Int32 × qa_M => z.2)) z)) E (fun rz E => ?_)
    exact qsome_f (Q := fun z => qfr wf_X7_step_b42 h ((fun z : Int32 × qa_M => z.2) z)) E e_h
  · rcases qif_el E with E | E
    · refine qup_f (Q := fun z => qfr wf_X7_step_b42 h ((Sum.elim (fun z : Int32 × qa_M => z.2) (fun z : Int32 × qa_M => z.2)) z)) E (fun rz E => ?_)
      exact qsome_f (Q := fun z => qfr wf_X7_step_b42 h ((fun z : Int32 × qa_M => z.2) z)) E e_h
    · obtain ⟨-, E⟩ := qck_el E
      obtain ⟨v64, -, E⟩ := qbd_el E
      rcases qif_el E with E | E
      · obtain ⟨h78, q_h78, E⟩ := qbd_el E
        have e_h78 := qfr_Ik q_h78 (List.mem_of_getElem? (i := 0) rfl) e_h
        exact qfr_tr e_h78 (qfr_sub qsub_nil (fr_X7_step_b175 x1 h78 E))
      · obtain ⟨c93, h93, E0, E⟩ := qbn_el E
        have e_h93 := qfr_tr e_h (qfr_sub qsub_nil (fr_X2_lowest v64 h E0))
        obtain ⟨-, E⟩ := qck_el E
        obtain ⟨h96, q_h96, E⟩ := qbd_el E
        have e_h96 := qfr_I0 q_h96 (List.mem_of_getElem? (i := 2) rfl) e_h93
        obtain ⟨-, E⟩ := qck_el E
        obtain ⟨h110, q_h110, E⟩ := qbd_el E
        have e_h110 := qfr_J0 q_h110 (List.mem_of_getElem? (i := 3) rfl) e_h96
        obtain ⟨c118, h118, E0, E⟩ := qbn_el E
        have e_h118 := qfr_tr e_h110 (qfr_sub qsub_nil (fr_X7_room ((h110.1 22 12) + (1 : Int32)) h110 E0))
        obtain ⟨v121, -, E⟩ := qbd_el E
        rcases qif_el E with E | E
        · exact qfr_tr e_h118 (qfr_sub qsub_nil (fr_X7_step_b175 x1 h118 E))
        · rcases qif_el E with E | E
          · refine qup_f (Q := fun z => qfr wf_X7_step_b42 h ((Sum.elim (fun z : Int32 × qa_M => z.2) (fun z : Int32 × qa_M => z.2)) z)) E (fun rz E => ?_)
            exact qfr_tr e_h118 (qfr_sub (qsub_c (List.mem_of_getElem? (i := 1) rfl) qsub_nil) (fr_X7_step_b146 v121 h118 E))
          · obtain ⟨h161, q_h161, E⟩ := qbd_el E
            have e_h161 := qfr_Ik q_h161 (List.mem_of_getElem? (i := 0) rfl) e_h118
            obtain ⟨-, E⟩ := qck_el E
            obtain ⟨h174, q_h174, E⟩ := qbd_el E
            have e_h174 := qfr_J0 q_h174 (List.mem_of_getElem? (i := 3) rfl) e_h161
            exact qfr_tr e_h174 (qfr_sub qsub_nil (fr_X7_step_b175 x1 h174 E))
theorem fr_X7_step_b42_loop (x1 : Int32) (h : qa_M) {z : (Int32 × qa_M)} (E : f_X7_step_b42_loop x1 h = some z) : qfr wf_X7_step_b42 h ((fun z : Int32 × qa_M => z.2) z) :=
  qlp_ind (fun sz : Int32 × qa_M => qfr wf_X7_step_b42 (sz.2) ((fun z : Int32 × qa_M => z.2) z)) (fun sz E => fr_X7_step_b42 sz.1 sz.2 E) (fun sz sz2 E ih => qfr_tr (fr_X7_step_b42 sz.1 sz.2 E) ih) (x1, h) E
def w_X7_step : List (Nat × Nat) := [(22, 13), (22, 16), (31, 0), (32, 0)]
theorem fr_X7_step (h : qa_M) {z : (Int32 × qa_M)} (E : m_X7_step h = some z) : qfr w_X7_step h ((fun z : Int32 × qa_M => z.2) z) := by
  unfold m_X7_step at E
  have e_h : qfr w_X7_step h h := qfr_rf
  rcases qif_el E with E | E
  · obtain ⟨v41, -, E⟩ := qbd_el E
    exact qfr_tr e_h (qfr_sub (qsub_c (List.mem_of_getElem? (i := 0) rfl) (qsub_c (List.mem_of_getElem? (i := 1) rfl) (qsub_c (List.mem_of_getElem? (i := 2) rfl) (qsub_c (List.mem_of_getElem? (i := 3) rfl) qsub_nil)))) (fr_X7_step_b42_loop v41 h E))
  · obtain ⟨-, E⟩ := qck_el E
    obtain ⟨h15, q_h15, E⟩ := qbd_el E
    have e_h15 := qfr_Jk q_h15 (List.mem_of_getElem? (i := 1) rfl) e_h
    obtain ⟨-, E⟩ := qck_el E
    obtain ⟨h24, q_h24, E⟩ := qbd_el E
    have e_h24 := qfr_J0 q_h24 (List.mem_of_getElem? (i := 3) rfl) e_h15
    rcases qif_el E with E | E
    · exact qsome_f (Q := fun z => qfr w_X7_step h ((fun z : Int32 × qa_M => z.2) z)) E e_h24
    · exact qsome_f (Q := fun z => qfr w_X7_step h ((fun z : Int32 × qa_M => z.2) z)) E e_h24
def wf_X7_total_b9 : List (Nat × Nat) := [(22, 13), (22, 16), (31, 0), (32, 0)]
theorem fr_X7_total_b9 (x2 : Int32) (x3 : Int32) (h : qa_M) {z : ((Int32 × Int32 × qa_M) ⊕ (Int32 × qa_M))} (E : f_X7_total_b9 x2 x3 h = some z) : qfr wf_X7_total_b9 h ((Sum.elim (fun z : Int32 × Int32 × qa_M => z.2.2) (fun z : Int32 × qa_M => z.2)) z) := by
  unfold f_X7_total_b9 at E
  have e_h : qfr wf_X7_total_b9 h h := qfr_rf
  rcases qif_el E with E | E
  · refine qup_f (Q := fun z => qfr wf_X7_total_b9 h ((Sum.elim (fun z : Int32 × Int32 × qa_M => z.2.2) (fun z : Int32 × qa_M => z.2)) z)) E (fun rz E => ?_)
    exact qsome_f (Q := fun z => qfr wf_X7_total_b9 h ((fun z : Int32 × qa_M => z.2) z)) E e_h
  · obtain ⟨c16, h16, E0, E⟩ := qbn_el E
    have e_h16 := qfr_tr e_h (qfr_sub (qsub_c (List.mem_of_getElem? (i := 0) rfl) (qsub_c (List.mem_of_getElem? (i := 1) rfl) (qsub_c (List.mem_of_getElem? (i := 2) rfl) (qsub_c (List.mem_of_getElem? (i := 3) rfl) qsub_nil)))) (fr_X7_step h E0))
    rcases qif_el E with E | E
    · refine qup_f (Q := fun z => qfr wf_X7_total_b9 h ((Sum.elim (fun z : Int32 × Int32 × qa_M => z.2.2) (fun z : Int32 × qa_M => z.2)) z)) E (fun rz E => ?_)
      exact qsome_f (Q := fun z => qfr wf_X7_total_b9 h ((fun z : Int32 × qa_M => z.2) z)) E e_h16
    · obtain ⟨c27, h27, E0, E⟩ := qbn_el E
      have e_h27 := qfr_tr e_h16 (qfr_sub qsub_nil (fr_J13_bitCount_95d88 (h16.2.1 22 15) h16 E0))
      obtain ⟨v31, -, E⟩ := qbd_el E
      obtain ⟨v32, -, E⟩ := qbd_el E
      exact qsome_f (Q := fun z => qfr wf_X7_total_b9 h ((Sum.elim (fun z : Int32 × Int32 × qa_M => z.2.2) (fun z : Int32 × qa_M => z.2)) z)) E e_h27
theorem fr_X7_total_b9_loop (x2 : Int32) (x3 : Int32) (h : qa_M) {z : (Int32 × qa_M)} (E : f_X7_total_b9_loop x2 x3 h = some z) : qfr wf_X7_total_b9 h ((fun z : Int32 × qa_M => z.2) z) :=
  qlp_ind (fun sz : Int32 × Int32 × qa_M => qfr wf_X7_total_b9 (sz.2.2) ((fun z : Int32 × qa_M => z.2) z)) (fun sz E => fr_X7_total_b9 sz.1 sz.2.1 sz.2.2 E) (fun sz sz2 E ih => qfr_tr (fr_X7_total_b9 sz.1 sz.2.1 sz.2.2 E) ih) (x2, x3, h) E
def w_X7_total : List (Nat × Nat) := [(22, 8), (22, 9), (22, 13), (22, 16), (27, 0), (28, 0), (29, 0), (30, 0), (31, 0), (32, 0)]
theorem fr_X7_total (x1 : Int32) (h : qa_M) {z : (Int32 × qa_M)} (E : m_X7_total x1 h = some z) : qfr w_X7_total h ((fun z : Int32 × qa_M => z.2) z) := by
  unfold m_X7_total at E
  have e_h : qfr w_X7_total h h := qfr_rf
  obtain ⟨v1, -, E⟩ := qbd_el E
  obtain ⟨h4, E0, E⟩ := qbv_el E
  have e_h4 := qfr_tr e_h (qfr_sub (qsub_c (List.mem_of_getElem? (i := 0) rfl) (qsub_c (List.mem_of_getElem? (i := 1) rfl) (qsub_c (List.mem_of_getElem? (i := 2) rfl) (qsub_c (List.mem_of_getElem? (i := 4) rfl) (qsub_c (List.mem_of_getElem? (i := 5) rfl) (qsub_c (List.mem_of_getElem? (i := 6) rfl) (qsub_c (List.mem_of_getElem? (i := 7) rfl) (qsub_c (List.mem_of_getElem? (i := 9) rfl) qsub_nil)))))))) (fr_X7_start x1 h E0))
  obtain ⟨v8, -, E⟩ := qbd_el E
  exact qfr_tr e_h4 (qfr_sub (qsub_c (List.mem_of_getElem? (i := 2) rfl) (qsub_c (List.mem_of_getElem? (i := 3) rfl) (qsub_c (List.mem_of_getElem? (i := 8) rfl) (qsub_c (List.mem_of_getElem? (i := 9) rfl) qsub_nil)))) (fr_X7_total_b9_loop v1 v8 h4 E))
def w_X11_howMany : List (Nat × Nat) := [(0, 15), (22, 5), (22, 8), (22, 9), (22, 13), (22, 16), (24, 0), (25, 0), (26, 0), (27, 0), (28, 0), (29, 0), (30, 0), (31, 0), (32, 0), (88, 0), (90, 0), (91, 0), (97, 0), (99, 0), (100, 0), (106, 0), (108, 0), (109, 0), (115, 0), (117, 0), (118, 0)]
theorem fr_X11_howMany (x1 : Int32) (h : qa_M) {z : (Int32 × qa_M)} (E : m_X11_howMany x1 h = some z) : qfr w_X11_howMany h ((fun z : Int32 × qa_M => z.2) z) := by
  unfold m_X11_howMany at E
  have e_h : qfr w_X11_howMany h h := qfr_rf
  obtain ⟨h1, E0, E⟩ := qbv_el E
  have e_h1 := qfr_tr e_h (qfr_sub (qsub_c (List.mem_of_getElem? (i := 0) rfl) (qsub_c (List.mem_of_getElem? (i := 1) rfl) (qsub_c (List.mem_of_getElem? (i := 6) rfl) (qsub_c (List.mem_of_getElem? (i := 7) rfl) (qsub_c (List.mem_of_getElem? (i := 8) rfl) (qsub_c (List.mem_of_getElem? (i := 15) rfl) (qsub_c (List.mem_of_getElem? (i := 16) rfl) (qsub_c (List.mem_of_getElem? (i := 17) rfl) (qsub_c (List.mem_of_getElem? (i := 18) rfl) (qsub_c (List.mem_of_getElem? (i := 19) rfl) (qsub_c (List.mem_of_getElem? (i := 20) rfl) (qsub_c (List.mem_of_getElem? (i := 21) rfl) (qsub_c (List.mem_of_getElem? (i := 22) rfl) (qsub_c (List.mem_of_getElem? (i := 23) rfl) (qsub_c (List.mem_of_getElem? (i := 24) rfl) (qsub_c (List.mem_of_getElem? (i := 25) rfl) (qsub_c (List.mem_of_getElem? (i := 26) rfl) qsub_nil))))))))))))))))) (fr_X11_prepare h E0))
  obtain ⟨c9, h9, E0, E⟩ := qbn_el E
  have e_h9 := qfr_tr e_h1 (qfr_sub (qsub_c (List.mem_of_getElem? (i := 2) rfl) (qsub_c (List.mem_of_getElem? (i := 3) rfl) (qsub_c (List.mem_of_getElem? (i := 4) rfl) (qsub_c (List.mem_of_getElem? (i := 5) rfl) (qsub_c (List.mem_of_getElem? (i := 9) rfl) (qsub_c (List.mem_of_getElem? (i := 10) rfl) (qsub_c (List.mem_of_getElem? (i := 11) rfl) (qsub_c (List.mem_of_getElem? (i := 12) rfl) (qsub_c (List.mem_of_getElem? (i := 13) rfl) (qsub_c (List.mem_of_getElem? (i := 14) rfl) qsub_nil)))))))))) (fr_X7_total x1 h1 E0))
  exact qsome_f (Q := fun z => qfr w_X11_howMany h ((fun z : Int32 × qa_M => z.2) z)) E e_h9
def w_X11_layings : List (Nat × Nat) := [(0, 15), (22, 5), (22, 8), (22, 9), (22, 13), (22, 16), (24, 0), (25, 0), (26, 0), (27, 0), (28, 0), (29, 0), (30, 0), (31, 0), (32, 0), (88, 0), (90, 0), (91, 0), (97, 0), (99, 0), (100, 0), (106, 0), (108, 0), (109, 0), (115, 0), (117, 0), (118, 0)]
theorem fr_X11_layings (x1 : Int32) (h : qa_M) {z : (Int32 × qa_M)} (E : m_X11_layings x1 h = some z) : qfr w_X11_layings h ((fun z : Int32 × qa_M => z.2) z) := by
  unfold m_X11_layings at E
  have e_h : qfr w_X11_layings h h := qfr_rf
  obtain ⟨c2, h2, E0, E⟩ := qbn_el E
  have e_h2 := qfr_tr e_h (qfr_sub qsub_nil (fr_X11_known x1 h E0))
  rcases qif_el E with E | E
  · exact qsome_f (Q := fun z => qfr w_X11_layings h ((fun z : Int32 × qa_M => z.2) z)) E e_h2
  · obtain ⟨c10, h10, E0, E⟩ := qbn_el E
    have e_h10 := qfr_tr e_h2 (qfr_sub (qsub_c (List.mem_of_getElem? (i := 0) rfl) (qsub_c (List.mem_of_getElem? (i := 1) rfl) (qsub_c (List.mem_of_getElem? (i := 2) rfl) (qsub_c (List.mem_of_getElem? (i := 3) rfl) (qsub_c (List.mem_of_getElem? (i := 4) rfl) (qsub_c (List.mem_of_getElem? (i := 5) rfl) (qsub_c (List.mem_of_getElem? (i := 6) rfl) (qsub_c (List.mem_of_getElem? (i := 7) rfl) (qsub_c (List.mem_of_getElem? (i := 8) rfl) (qsub_c (List.mem_of_getElem? (i := 9) rfl) (qsub_c (List.mem_of_getElem? (i := 10) rfl) (qsub_c (List.mem_of_getElem? (i := 11) rfl) (qsub_c (List.mem_of_getElem? (i := 12) rfl) (qsub_c (List.mem_of_getElem? (i := 13) rfl) (qsub_c (List.mem_of_getElem? (i := 14) rfl) (qsub_c (List.mem_of_getElem? (i := 15) rfl) (qsub_c (List.mem_of_getElem? (i := 16) rfl) (qsub_c (List.mem_of_getElem? (i := 17) rfl) (qsub_c (List.mem_of_getElem? (i := 18) rfl) (qsub_c (List.mem_of_getElem? (i := 19) rfl) (qsub_c (List.mem_of_getElem? (i := 20) rfl) (qsub_c (List.mem_of_getElem? (i := 21) rfl) (qsub_c (List.mem_of_getElem? (i := 22) rfl) (qsub_c (List.mem_of_getElem? (i := 23) rfl) (qsub_c (List.mem_of_getElem? (i := 24) rfl) (qsub_c (List.mem_of_getElem? (i := 25) rfl) (qsub_c (List.mem_of_getElem? (i := 26) rfl) qsub_nil))))))))))))))))))))))))))) (fr_X11_howMany x1 h2 E0))
    exact qsome_f (Q := fun z => qfr w_X11_layings h ((fun z : Int32 × qa_M => z.2) z)) E e_h10
theorem fr_X7_lastSort (h : qa_M) {z : (Int32 × qa_M)} (E : m_X7_lastSort h = some z) : qfr wz h ((fun z : Int32 × qa_M => z.2) z) := by
  unfold m_X7_lastSort at E
  have e_h : qfr wz h h := qfr_rf
  rcases qif_el E with E | E
  · exact qsome_f (Q := fun z => qfr wz h ((fun z : Int32 × qa_M => z.2) z)) E e_h
  · obtain ⟨-, E⟩ := qck_el E
    exact qsome_f (Q := fun z => qfr wz h ((fun z : Int32 × qa_M => z.2) z)) E e_h
def wf_X7_tally_b104 : List (Nat × Nat) := [(33, 0)]
theorem fr_X7_tally_b104 (x2 : Int32) (x3 : Int64) (x5 : Int32) (x6 : Int32) (s0 : Int32) (h : qa_M) {z : ((Int32 × Int64 × Int32 × qa_M) ⊕ qa_M)} (E : f_X7_tally_b104 x2 x3 x5 x6 s0 h = some z) : qfr wf_X7_tally_b104 h ((Sum.elim (fun z : Int32 × Int64 × Int32 × qa_M => z.2.2.2) (fun z : qa_M => z)) z) := by
  unfold f_X7_tally_b104 at E
  have e_h : qfr wf_X7_tally_b104 h h := qfr_rf
  obtain ⟨v104, -, E⟩ := qbd_el E
  obtain ⟨-, E⟩ := qck_el E
  obtain ⟨c118, h118, E0, E⟩ := qbn_el E
  have e_h118 := qfr_tr e_h (qfr_sub qsub_nil (fr_J13_bitCount_95d88 (h.2.1 22 15) h E0))
  obtain ⟨-, E⟩ := qck_el E
  obtain ⟨h125, q_h125, E⟩ := qbd_el E
  have e_h125 := qfr_I0 q_h125 (List.mem_of_getElem? (i := 0) rfl) e_h118
  obtain ⟨-, E⟩ := qck_el E
  obtain ⟨-, E⟩ := qck_el E
  obtain ⟨h139, q_h139, E⟩ := qbd_el E
  have e_h139 := qfr_I0 q_h139 (List.mem_of_getElem? (i := 0) rfl) e_h125
  obtain ⟨v140, -, E⟩ := qbd_el E
  exact qsome_f (Q := fun z => qfr wf_X7_tally_b104 h ((Sum.elim (fun z : Int32 × Int64 × Int32 × qa_M => z.2.2.2) (fun z : qa_M => z)) z)) E e_h139
def wf_X7_tally_b83 : List (Nat × Nat) := [(33, 0)]
theorem fr_X7_tally_b83 (x2 : Int32) (x3 : Int64) (x5 : Int32) (x6 : Int32) (h : qa_M) {z : ((Int32 × Int64 × Int32 × qa_M) ⊕ qa_M)} (E : f_X7_tally_b83 x2 x3 x5 x6 h = some z) : qfr wf_X7_tally_b83 h ((Sum.elim (fun z : Int32 × Int64 × Int32 × qa_M => z.2.2.2) (fun z : qa_M => z)) z) := by
  unfold f_X7_tally_b83 at E
  have e_h : qfr wf_X7_tally_b83 h h := qfr_rf
  obtain ⟨c84, h84, E0, E⟩ := qbn_el E
  have e_h84 := qfr_tr e_h (qfr_sub qsub_nil (fr_X7_lastSort h E0))
  rcases qif_el E with E | E
  · obtain ⟨c97, h97, E0, E⟩ := qbn_el E
    have e_h97 := qfr_tr e_h84 (qfr_sub qsub_nil (fr_J13_bitCount_95d88 ((h84.2.1 22 15) &&& x3) h84 E0))
    exact qfr_tr e_h97 (qfr_sub (qsub_c (List.mem_of_getElem? (i := 0) rfl) qsub_nil) (fr_X7_tally_b104 x2 x3 x5 x6 c97 h97 E))
  · exact qfr_tr e_h84 (qfr_sub (qsub_c (List.mem_of_getElem? (i := 0) rfl) qsub_nil) (fr_X7_tally_b104 x2 x3 x5 x6 (0 : Int32) h84 E))
theorem fr_X7_tally_b77 (x2 : Int32) (x3 : Int64) (x5 : Int32) (x6 : Int32) (x7 : Int32) (h : qa_M) {z : ((Int32 × Int64 × Int32 × Int32 × Int32 × qa_M) ⊕ ((Int32 × Int64 × Int32 × qa_M) ⊕ qa_M))} (E : f_X7_tally_b77 x2 x3 x5 x6 x7 h = some z) : qfr wz h ((Sum.elim (fun z : Int32 × Int64 × Int32 × Int32 × Int32 × qa_M => z.2.2.2.2.2) (Sum.elim (fun z : Int32 × Int64 × Int32 × qa_M => z.2.2.2) (fun z : qa_M => z))) z) := by
  unfold f_X7_tally_b77 at E
  have e_h : qfr wz h h := qfr_rf
  obtain ⟨v77, -, E⟩ := qbd_el E
  exact qsome_f (Q := fun z => qfr wz h ((Sum.elim (fun z : Int32 × Int64 × Int32 × Int32 × Int32 × qa_M => z.2.2.2.2.2) (Sum.elim (fun z : Int32 × Int64 × Int32 × qa_M => z.2.2.2) (fun z : qa_M => z))) z)) E e_h
def wf_X7_tally_b36 : List (Nat × Nat) := [(33, 0)]
theorem fr_X7_tally_b36 (x2 : Int32) (x3 : Int64) (x5 : Int32) (x6 : Int32) (x7 : Int32) (h : qa_M) {z : ((Int32 × Int64 × Int32 × Int32 × Int32 × qa_M) ⊕ ((Int32 × Int64 × Int32 × qa_M) ⊕ qa_M))} (E : f_X7_tally_b36 x2 x3 x5 x6 x7 h = some z) : qfr wf_X7_tally_b36 h ((Sum.elim (fun z : Int32 × Int64 × Int32 × Int32 × Int32 × qa_M => z.2.2.2.2.2) (Sum.elim (fun z : Int32 × Int64 × Int32 × qa_M => z.2.2.2) (fun z : qa_M => z))) z) := by
  unfold f_X7_tally_b36 at E
  have e_h : qfr wf_X7_tally_b36 h h := qfr_rf
  rcases qif_el E with E | E
  · refine qup_f (Q := fun z => qfr wf_X7_tally_b36 h ((Sum.elim (fun z : Int32 × Int64 × Int32 × Int32 × Int32 × qa_M => z.2.2.2.2.2) (Sum.elim (fun z : Int32 × Int64 × Int32 × qa_M => z.2.2.2) (fun z : qa_M => z))) z)) E (fun rz E => ?_)
    exact qfr_tr e_h (qfr_sub (qsub_c (List.mem_of_getElem? (i := 0) rfl) qsub_nil) (fr_X7_tally_b83 x2 x3 x5 x6 h E))
  · obtain ⟨-, E⟩ := qck_el E
    rcases qif_el E with E | E
    · obtain ⟨-, E⟩ := qck_el E
      rcases qif_el E with E | E
      · exact qfr_tr e_h (qfr_sub qsub_nil (fr_X7_tally_b77 x2 x3 x5 x6 x7 h E))
      · obtain ⟨v74, -, E⟩ := qbd_el E
        exact qfr_tr e_h (qfr_sub qsub_nil (fr_X7_tally_b77 x2 x3 x5 v74 x7 h E))
    · exact qfr_tr e_h (qfr_sub qsub_nil (fr_X7_tally_b77 x2 x3 x5 x6 x7 h E))
theorem fr_X7_tally_b36_loop (x2 : Int32) (x3 : Int64) (x5 : Int32) (x6 : Int32) (x7 : Int32) (h : qa_M) {z : ((Int32 × Int64 × Int32 × qa_M) ⊕ qa_M)} (E : f_X7_tally_b36_loop x2 x3 x5 x6 x7 h = some z) : qfr wf_X7_tally_b36 h ((Sum.elim (fun z : Int32 × Int64 × Int32 × qa_M => z.2.2.2) (fun z : qa_M => z)) z) :=
  qlp_ind (fun sz : Int32 × Int64 × Int32 × Int32 × Int32 × qa_M => qfr wf_X7_tally_b36 (sz.2.2.2.2.2) ((Sum.elim (fun z : Int32 × Int64 × Int32 × qa_M => z.2.2.2) (fun z : qa_M => z)) z)) (fun sz E => fr_X7_tally_b36 sz.1 sz.2.1 sz.2.2.1 sz.2.2.2.1 sz.2.2.2.2.1 sz.2.2.2.2.2 E) (fun sz sz2 E ih => qfr_tr (fr_X7_tally_b36 sz.1 sz.2.1 sz.2.2.1 sz.2.2.2.1 sz.2.2.2.2.1 sz.2.2.2.2.2 E) ih) (x2, x3, x5, x6, x7, h) E
def wf_X7_tally_b16 : List (Nat × Nat) := [(22, 13), (22, 16), (31, 0), (32, 0), (33, 0)]
theorem fr_X7_tally_b16 (x2 : Int32) (x3 : Int64) (x5 : Int32) (h : qa_M) {z : ((Int32 × Int64 × Int32 × qa_M) ⊕ qa_M)} (E : f_X7_tally_b16 x2 x3 x5 h = some z) : qfr wf_X7_tally_b16 h ((Sum.elim (fun z : Int32 × Int64 × Int32 × qa_M => z.2.2.2) (fun z : qa_M => z)) z) := by
  unfold f_X7_tally_b16 at E
  have e_h : qfr wf_X7_tally_b16 h h := qfr_rf
  rcases qif_el E with E | E
  · refine qup_f (Q := fun z => qfr wf_X7_tally_b16 h ((Sum.elim (fun z : Int32 × Int64 × Int32 × qa_M => z.2.2.2) (fun z : qa_M => z)) z)) E (fun rz E => ?_)
    exact qsome_f (Q := fun z => qfr wf_X7_tally_b16 h ((fun z : qa_M => z) z)) E e_h
  · obtain ⟨c24, h24, E0, E⟩ := qbn_el E
    have e_h24 := qfr_tr e_h (qfr_sub (qsub_c (List.mem_of_getElem? (i := 0) rfl) (qsub_c (List.mem_of_getElem? (i := 1) rfl) (qsub_c (List.mem_of_getElem? (i := 2) rfl) (qsub_c (List.mem_of_getElem? (i := 3) rfl) qsub_nil)))) (fr_X7_step h E0))
    rcases qif_el E with E | E
    · refine qup_f (Q := fun z => qfr wf_X7_tally_b16 h ((Sum.elim (fun z : Int32 × Int64 × Int32 × qa_M => z.2.2.2) (fun z : qa_M => z)) z)) E (fun rz E => ?_)
      exact qsome_f (Q := fun z => qfr wf_X7_tally_b16 h ((fun z : qa_M => z) z)) E e_h24
    · obtain ⟨v31, -, E⟩ := qbd_el E
      obtain ⟨v34, -, E⟩ := qbd_el E
      exact qfr_tr e_h24 (qfr_sub (qsub_c (List.mem_of_getElem? (i := 4) rfl) qsub_nil) (fr_X7_tally_b36_loop x2 x3 x5 v31 v34 h24 E))
theorem fr_X7_tally_b16_loop (x2 : Int32) (x3 : Int64) (x5 : Int32) (h : qa_M) {z : qa_M} (E : f_X7_tally_b16_loop x2 x3 x5 h = some z) : qfr wf_X7_tally_b16 h ((fun z : qa_M => z) z) :=
  qlp_ind (fun sz : Int32 × Int64 × Int32 × qa_M => qfr wf_X7_tally_b16 (sz.2.2.2) ((fun z : qa_M => z) z)) (fun sz E => fr_X7_tally_b16 sz.1 sz.2.1 sz.2.2.1 sz.2.2.2 E) (fun sz sz2 E ih => qfr_tr (fr_X7_tally_b16 sz.1 sz.2.1 sz.2.2.1 sz.2.2.2 E) ih) (x2, x3, x5, h) E
def w_X7_tally : List (Nat × Nat) := [(22, 8), (22, 9), (22, 13), (22, 16), (27, 0), (28, 0), (29, 0), (30, 0), (31, 0), (32, 0), (33, 0)]
theorem fr_X7_tally (x1 : Int32) (x2 : Int32) (x3 : Int64) (h : qa_M) {z : qa_M} (E : m_X7_tally x1 x2 x3 h = some z) : qfr w_X7_tally h ((fun z : qa_M => z) z) := by
  unfold m_X7_tally at E
  have e_h : qfr w_X7_tally h h := qfr_rf
  obtain ⟨h5, E0, E⟩ := qbv_el E
  have e_h5 := qfr_tr e_h (qfr_sub (qsub_c (List.mem_of_getElem? (i := 10) rfl) qsub_nil) (fr_J7_fill_53178 33 (0 : Int32) h E0))
  obtain ⟨h10, E0, E⟩ := qbv_el E
  have e_h10 := qfr_tr e_h5 (qfr_sub (qsub_c (List.mem_of_getElem? (i := 0) rfl) (qsub_c (List.mem_of_getElem? (i := 1) rfl) (qsub_c (List.mem_of_getElem? (i := 2) rfl) (qsub_c (List.mem_of_getElem? (i := 4) rfl) (qsub_c (List.mem_of_getElem? (i := 5) rfl) (qsub_c (List.mem_of_getElem? (i := 6) rfl) (qsub_c (List.mem_of_getElem? (i := 7) rfl) (qsub_c (List.mem_of_getElem? (i := 9) rfl) qsub_nil)))))))) (fr_X7_start x1 h5 E0))
  obtain ⟨v14, -, E⟩ := qbd_el E
  exact qfr_tr e_h10 (qfr_sub (qsub_c (List.mem_of_getElem? (i := 2) rfl) (qsub_c (List.mem_of_getElem? (i := 3) rfl) (qsub_c (List.mem_of_getElem? (i := 8) rfl) (qsub_c (List.mem_of_getElem? (i := 9) rfl) (qsub_c (List.mem_of_getElem? (i := 10) rfl) qsub_nil))))) (fr_X7_tally_b16_loop x2 x3 v14 h10 E))
def w_X11_may : List (Nat × Nat) := [(0, 15), (22, 5), (22, 8), (22, 9), (22, 13), (22, 16), (24, 0), (25, 0), (26, 0), (27, 0), (28, 0), (29, 0), (30, 0), (31, 0), (32, 0), (33, 0), (88, 0), (90, 0), (91, 0), (97, 0), (99, 0), (100, 0), (106, 0), (108, 0), (109, 0), (115, 0), (117, 0), (118, 0)]
theorem fr_X11_may (x1 : Int32) (x2 : Int32) (x3 : Int32) (x4 : Int32) (h : qa_M) {z : (Int32 × qa_M)} (E : m_X11_may x1 x2 x3 x4 h = some z) : qfr w_X11_may h ((fun z : Int32 × qa_M => z.2) z) := by
  unfold m_X11_may at E
  have e_h : qfr w_X11_may h h := qfr_rf
  obtain ⟨c2, h2, E0, E⟩ := qbn_el E
  have e_h2 := qfr_tr e_h (qfr_sub qsub_nil (fr_X11_known x1 h E0))
  rcases qif_el E with E | E
  · exact qsome_f (Q := fun z => qfr w_X11_may h ((fun z : Int32 × qa_M => z.2) z)) E e_h2
  · obtain ⟨c17, h17, E0, E⟩ := qbn_el E
    have e_h17 := qfr_tr e_h2 (qfr_sub qsub_nil (fr_X3_holds x2 x3 h2 E0))
    rcases qif_el E with E | E
    · exact qsome_f (Q := fun z => qfr w_X11_may h ((fun z : Int32 × qa_M => z.2) z)) E e_h17
    · obtain ⟨c35, h35, E0, E⟩ := qbn_el E
      have e_h35 := qfr_tr e_h17 (qfr_sub qsub_nil (fr_X11_within x4 (h17.1 4 4) h17 E0))
      rcases qif_el E with E | E
      · exact qsome_f (Q := fun z => qfr w_X11_may h ((fun z : Int32 × qa_M => z.2) z)) E e_h35
      · obtain ⟨h44, E0, E⟩ := qbv_el E
        have e_h44 := qfr_tr e_h35 (qfr_sub (qsub_c (List.mem_of_getElem? (i := 0) rfl) (qsub_c (List.mem_of_getElem? (i := 1) rfl) (qsub_c (List.mem_of_getElem? (i := 6) rfl) (qsub_c (List.mem_of_getElem? (i := 7) rfl) (qsub_c (List.mem_of_getElem? (i := 8) rfl) (qsub_c (List.mem_of_getElem? (i := 16) rfl) (qsub_c (List.mem_of_getElem? (i := 17) rfl) (qsub_c (List.mem_of_getElem? (i := 18) rfl) (qsub_c (List.mem_of_getElem? (i := 19) rfl) (qsub_c (List.mem_of_getElem? (i := 20) rfl) (qsub_c (List.mem_of_getElem? (i := 21) rfl) (qsub_c (List.mem_of_getElem? (i := 22) rfl) (qsub_c (List.mem_of_getElem? (i := 23) rfl) (qsub_c (List.mem_of_getElem? (i := 24) rfl) (qsub_c (List.mem_of_getElem? (i := 25) rfl) (qsub_c (List.mem_of_getElem? (i := 26) rfl) (qsub_c (List.mem_of_getElem? (i := 27) rfl) qsub_nil))))))))))))))))) (fr_X11_prepare h35 E0))
        obtain ⟨c56, h56, E0, E⟩ := qbn_el E
        have e_h56 := qfr_tr e_h44 (qfr_sub qsub_nil (fr_X2_bit x2 x3 h44 E0))
        obtain ⟨h59, E0, E⟩ := qbv_el E
        have e_h59 := qfr_tr e_h56 (qfr_sub (qsub_c (List.mem_of_getElem? (i := 2) rfl) (qsub_c (List.mem_of_getElem? (i := 3) rfl) (qsub_c (List.mem_of_getElem? (i := 4) rfl) (qsub_c (List.mem_of_getElem? (i := 5) rfl) (qsub_c (List.mem_of_getElem? (i := 9) rfl) (qsub_c (List.mem_of_getElem? (i := 10) rfl) (qsub_c (List.mem_of_getElem? (i := 11) rfl) (qsub_c (List.mem_of_getElem? (i := 12) rfl) (qsub_c (List.mem_of_getElem? (i := 13) rfl) (qsub_c (List.mem_of_getElem? (i := 14) rfl) (qsub_c (List.mem_of_getElem? (i := 15) rfl) qsub_nil))))))))))) (fr_X7_tally x1 x4 c56 h56 E0))
        obtain ⟨-, E⟩ := qck_el E
        rcases qif_el E with E | E
        · exact qsome_f (Q := fun z => qfr w_X11_may h ((fun z : Int32 × qa_M => z.2) z)) E e_h59
        · obtain ⟨-, E⟩ := qck_el E
          rcases qif_el E with E | E
          · exact qsome_f (Q := fun z => qfr w_X11_may h ((fun z : Int32 × qa_M => z.2) z)) E e_h59
          · exact qsome_f (Q := fun z => qfr w_X11_may h ((fun z : Int32 × qa_M => z.2) z)) E e_h59
theorem fr_X11_commonDivisor_b7 (x2 : Int32) (x3 : Int32) (x4 : Int32) (h : qa_M) {z : ((Int32 × Int32 × Int32 × qa_M) ⊕ (Int32 × qa_M))} (E : f_X11_commonDivisor_b7 x2 x3 x4 h = some z) : qfr wz h ((Sum.elim (fun z : Int32 × Int32 × Int32 × qa_M => z.2.2.2) (fun z : Int32 × qa_M => z.2)) z) := by
  unfold f_X11_commonDivisor_b7 at E
  have e_h : qfr wz h h := qfr_rf
  rcases qif_el E with E | E
  · refine qup_f (Q := fun z => qfr wz h ((Sum.elim (fun z : Int32 × Int32 × Int32 × qa_M => z.2.2.2) (fun z : Int32 × qa_M => z.2)) z)) E (fun rz E => ?_)
    exact qsome_f (Q := fun z => qfr wz h ((fun z : Int32 × qa_M => z.2) z)) E e_h
  · rcases qif_el E with E | E
    · refine qup_f (Q := fun z => qfr wz h ((Sum.elim (fun z : Int32 × Int32 × Int32 × qa_M => z.2.2.2) (fun z : Int32 × qa_M => z.2)) z)) E (fun rz E => ?_)
      exact qsome_f (Q := fun z => qfr wz h ((fun z : Int32 × qa_M => z.2) z)) E e_h
    · obtain ⟨-, E⟩ := qnz_el E
      obtain ⟨v21, -, E⟩ := qbd_el E
      obtain ⟨v24, -, E⟩ := qbd_el E
      obtain ⟨v27, -, E⟩ := qbd_el E
      obtain ⟨v28, -, E⟩ := qbd_el E
      exact qsome_f (Q := fun z => qfr wz h ((Sum.elim (fun z : Int32 × Int32 × Int32 × qa_M => z.2.2.2) (fun z : Int32 × qa_M => z.2)) z)) E e_h
theorem fr_X11_commonDivisor_b7_loop (x2 : Int32) (x3 : Int32) (x4 : Int32) (h : qa_M) {z : (Int32 × qa_M)} (E : f_X11_commonDivisor_b7_loop x2 x3 x4 h = some z) : qfr wz h ((fun z : Int32 × qa_M => z.2) z) :=
  qlp_ind (fun sz : Int32 × Int32 × Int32 × qa_M => qfr wz (sz.2.2.2) ((fun z : Int32 × qa_M => z.2) z)) (fun sz E => fr_X11_commonDivisor_b7 sz.1 sz.2.1 sz.2.2.1 sz.2.2.2 E) (fun sz sz2 E ih => qfr_tr (fr_X11_commonDivisor_b7 sz.1 sz.2.1 sz.2.2.1 sz.2.2.2 E) ih) (x2, x3, x4, h) E
theorem fr_X11_commonDivisor (x0 : Int32) (x1 : Int32) (h : qa_M) {z : (Int32 × qa_M)} (E : m_X11_commonDivisor x0 x1 h = some z) : qfr wz h ((fun z : Int32 × qa_M => z.2) z) := by
  unfold m_X11_commonDivisor at E
  have e_h : qfr wz h h := qfr_rf
  obtain ⟨v1, -, E⟩ := qbd_el E
  obtain ⟨v3, -, E⟩ := qbd_el E
  obtain ⟨v5, -, E⟩ := qbd_el E
  exact qfr_tr e_h (qfr_sub qsub_nil (fr_X11_commonDivisor_b7_loop v1 v3 v5 h E))
theorem fr_X11_odds_b125 (x8 : Int32) (s0 : Int32) (h : qa_M) {z : (Int32 × qa_M)} (E : f_X11_odds_b125 x8 s0 h = some z) : qfr wz h ((fun z : Int32 × qa_M => z.2) z) := by
  unfold f_X11_odds_b125 at E
  have e_h : qfr wz h h := qfr_rf
  obtain ⟨-, E⟩ := qnz_el E
  exact qsome_f (Q := fun z => qfr wz h ((fun z : Int32 × qa_M => z.2) z)) E e_h
def w_X11_odds : List (Nat × Nat) := [(0, 15), (22, 5), (22, 8), (22, 9), (22, 13), (22, 16), (24, 0), (25, 0), (26, 0), (27, 0), (28, 0), (29, 0), (30, 0), (31, 0), (32, 0), (33, 0), (88, 0), (90, 0), (91, 0), (97, 0), (99, 0), (100, 0), (106, 0), (108, 0), (109, 0), (115, 0), (117, 0), (118, 0)]
theorem fr_X11_odds (x1 : Int32) (x2 : Int32) (x3 : Int32) (x4 : Int32) (x5 : Int32) (h : qa_M) {z : (Int32 × qa_M)} (E : m_X11_odds x1 x2 x3 x4 x5 h = some z) : qfr w_X11_odds h ((fun z : Int32 × qa_M => z.2) z) := by
  unfold m_X11_odds at E
  have e_h : qfr w_X11_odds h h := qfr_rf
  obtain ⟨c2, h2, E0, E⟩ := qbn_el E
  have e_h2 := qfr_tr e_h (qfr_sub qsub_nil (fr_X11_known x1 h E0))
  rcases qif_el E with E | E
  · exact qsome_f (Q := fun z => qfr w_X11_odds h ((fun z : Int32 × qa_M => z.2) z)) E e_h2
  · obtain ⟨c17, h17, E0, E⟩ := qbn_el E
    have e_h17 := qfr_tr e_h2 (qfr_sub qsub_nil (fr_X3_holds x2 x3 h2 E0))
    rcases qif_el E with E | E
    · exact qsome_f (Q := fun z => qfr w_X11_odds h ((fun z : Int32 × qa_M => z.2) z)) E e_h17
    · obtain ⟨c35, h35, E0, E⟩ := qbn_el E
      have e_h35 := qfr_tr e_h17 (qfr_sub qsub_nil (fr_X11_within x4 (h17.1 4 4) h17 E0))
      rcases qif_el E with E | E
      · exact qsome_f (Q := fun z => qfr w_X11_odds h ((fun z : Int32 × qa_M => z.2) z)) E e_h35
      · obtain ⟨c44, h44, E0, E⟩ := qbn_el E
        have e_h44 := qfr_tr e_h35 (qfr_sub qsub_nil (fr_X11_within x5 (2 : Int32) h35 E0))
        rcases qif_el E with E | E
        · exact qsome_f (Q := fun z => qfr w_X11_odds h ((fun z : Int32 × qa_M => z.2) z)) E e_h44
        · obtain ⟨h53, E0, E⟩ := qbv_el E
          have e_h53 := qfr_tr e_h44 (qfr_sub (qsub_c (List.mem_of_getElem? (i := 0) rfl) (qsub_c (List.mem_of_getElem? (i := 1) rfl) (qsub_c (List.mem_of_getElem? (i := 6) rfl) (qsub_c (List.mem_of_getElem? (i := 7) rfl) (qsub_c (List.mem_of_getElem? (i := 8) rfl) (qsub_c (List.mem_of_getElem? (i := 16) rfl) (qsub_c (List.mem_of_getElem? (i := 17) rfl) (qsub_c (List.mem_of_getElem? (i := 18) rfl) (qsub_c (List.mem_of_getElem? (i := 19) rfl) (qsub_c (List.mem_of_getElem? (i := 20) rfl) (qsub_c (List.mem_of_getElem? (i := 21) rfl) (qsub_c (List.mem_of_getElem? (i := 22) rfl) (qsub_c (List.mem_of_getElem? (i := 23) rfl) (qsub_c (List.mem_of_getElem? (i := 24) rfl) (qsub_c (List.mem_of_getElem? (i := 25) rfl) (qsub_c (List.mem_of_getElem? (i := 26) rfl) (qsub_c (List.mem_of_getElem? (i := 27) rfl) qsub_nil))))))))))))))))) (fr_X11_prepare h44 E0))
          obtain ⟨c65, h65, E0, E⟩ := qbn_el E
          have e_h65 := qfr_tr e_h53 (qfr_sub qsub_nil (fr_X2_bit x2 x3 h53 E0))
          obtain ⟨h68, E0, E⟩ := qbv_el E
          have e_h68 := qfr_tr e_h65 (qfr_sub (qsub_c (List.mem_of_getElem? (i := 2) rfl) (qsub_c (List.mem_of_getElem? (i := 3) rfl) (qsub_c (List.mem_of_getElem? (i := 4) rfl) (qsub_c (List.mem_of_getElem? (i := 5) rfl) (qsub_c (List.mem_of_getElem? (i := 9) rfl) (qsub_c (List.mem_of_getElem? (i := 10) rfl) (qsub_c (List.mem_of_getElem? (i := 11) rfl) (qsub_c (List.mem_of_getElem? (i := 12) rfl) (qsub_c (List.mem_of_getElem? (i := 13) rfl) (qsub_c (List.mem_of_getElem? (i := 14) rfl) (qsub_c (List.mem_of_getElem? (i := 15) rfl) qsub_nil))))))))))) (fr_X7_tally x1 x4 c65 h65 E0))
          obtain ⟨-, E⟩ := qck_el E
          obtain ⟨v80, -, E⟩ := qbd_el E
          obtain ⟨-, E⟩ := qck_el E
          obtain ⟨v94, -, E⟩ := qbd_el E
          obtain ⟨c100, h100, E0, E⟩ := qbn_el E
          have e_h100 := qfr_tr e_h68 (qfr_sub qsub_nil (fr_X11_commonDivisor v80 v94 h68 E0))
          obtain ⟨v103, -, E⟩ := qbd_el E
          rcases qif_el E with E | E
          · exact qsome_f (Q := fun z => qfr w_X11_odds h ((fun z : Int32 × qa_M => z.2) z)) E e_h100
          · rcases qif_el E with E | E
            · exact qfr_tr e_h100 (qfr_sub qsub_nil (fr_X11_odds_b125 v103 v80 h100 E))
            · exact qfr_tr e_h100 (qfr_sub qsub_nil (fr_X11_odds_b125 v103 v94 h100 E))
