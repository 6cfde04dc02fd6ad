/-! WALKS: THE REFERENCE'S SPREAD -/
theorem ds_sy {a b : Nat} : ds a b = ds b a := by unfold ds dst; omega
theorem cnt_flip {p p2 : Nat → Bool} {t : Nat} (h1 : p t = false) (h2 : p2 t = true) (h3 : ∀ q, q ≠ t → p2 q = p q) : ∀ {n : Nat}, cnt p2 n = cnt p n + (if t < n then 1 else 0)
  | 0 => by rw [if_neg (by omega)]; rfl
  | n + 1 => by
    show cnt p2 n + (if p2 n = true then 1 else 0) = cnt p n + (if p n = true then 1 else 0) + _
    rw [cnt_flip h1 h2 h3 (n := n)]
    by_cases c : n = t
    · subst c
      rw [h1, h2, if_neg (by omega), if_pos rfl, if_neg (by decide), if_pos (by omega)]
    · rw [h3 n c]
      have : (t < n) ↔ (t < n + 1) := by omega
      simp only [this]
      omega
theorem cnt_lt {p : Nat → Bool} {t : Nat} (h : p t = false) : ∀ {n : Nat}, t < n → cnt p n < n
  | 0, q => by omega
  | n + 1, q => by
    show cnt p n + (if p n = true then 1 else 0) < n + 1
    by_cases c : n = t
    · subst c
      rw [h, if_neg (by decide)]
      have : ∀ m, cnt p m ≤ m := by
        intro m
        induction m with
        | zero => exact Nat.le_refl _
        | succ m ih =>
          show cnt p m + (if p m = true then 1 else 0) ≤ m + 1
          split <;> omega
      have := this n
      omega
    · have := cnt_lt h (n := n) (by omega)
      split <;> omega
def BF (s : Sg) (a : Nat) (h : qa_M) (n : Nat) (e dd : Nat → Nat) : Prop :=
  (∀ j, j < n → e j < 36 ∧ h.1 162 j = nn (e j) ∧ h.1 161 (e j) = nn (dd j) ∧ dd j ≤ j) ∧ (∀ q, q < 36 → h.1 161 q = 99999 ∨ ∃ j, j < n ∧ e j = q) ∧ (0 < n ∧ e 0 = a ∧ dd 0 = 0) ∧ (∀ j, 0 < j → j < n → opn s (e j) = true ∧ ∃ p, p < n ∧ ds (e p) (e j) ≤ 1 ∧ dd j = dd p + 1) ∧ (∀ j j2, j ≤ j2 → j2 < n → dd j ≤ dd j2) ∧ n ≤ 36 ∧ cnt (fun q => !decide (h.1 161 q = 99999)) 36 = n
theorem BF_new {s : Sg} {a n i t : Nat} {h : qa_M} {e dd : Nat → Nat} (bf : BF s a h n e dd) (hi : i < n) (ht : t < 36) (h9 : h.1 161 t = 99999) (ho : opn s t = true) (hd : ds (e i) t ≤ 1) (h6 : ∀ j, j < n → dd j ≤ dd i + 1) :
    n < 36 ∧ BF s a (qw_I (qw_I h 161 t (nn (dd i) + 1)) 162 n (nn t)) (n + 1) (fun j => if j = n then t else e j) (fun j => if j = n then dd i + 1 else dd j) := by
  obtain ⟨b1, b2, ⟨b3, b4, b5⟩, b6, b7, b8, b9⟩ := bf
  have n36 : n < 36 := by
    have := cnt_lt (p := fun q => !decide (h.1 161 q = 99999)) (t := t) (by rw [decide_eq_true h9]; rfl) (n := 36) ht
    omega
  have ne9 : ∀ d, d ≤ 36 → ¬ nn d = 99999 := fun d hd q => by
    rw [show (99999 : Int32) = nn 99999 from rfl, nn_eq (by omega) (by omega)] at q
    omega
  have et : ∀ j, j < n → e j ≠ t := by
    intro j hj q
    obtain ⟨-, -, c, c2⟩ := b1 j hj
    rw [q, h9] at c
    exact ne9 (dd j) (by omega) c.symm
  have di := (b1 i hi).2.2.2
  refine ⟨n36, fun j hj => ?_, fun q hq => ?_, ⟨by omega, ?_, ?_⟩, fun j h0 hj => ?_, fun j j2 h1 h2 => ?_, by omega, ?_⟩
  · by_cases c : j = n
    · subst c
      simp only [if_true]
      exact ⟨ht, wI_at, by rw [wI_ne (by omega), wI_at, nn_add1], by omega⟩
    · simp only [if_neg c]
      obtain ⟨c1, c2, c3, c4⟩ := b1 j (by omega)
      refine ⟨c1, ?_, ?_, c4⟩
      · rw [wI_ne (by omega), wI_ne (by omega)]
        exact c2
      · rw [wI_ne (by omega), wI_ne (fun q => et j (by omega) q.2)]
        exact c3
  · by_cases c : q = t
    · exact .inr ⟨n, by omega, by simp only [if_true]; exact c.symm⟩
    · rw [wI_ne (by omega), wI_ne (fun x => c x.2)]
      rcases b2 q hq with h | ⟨j, hj, hq⟩
      · exact .inl h
      · exact .inr ⟨j, by omega, by simp only [if_neg (show ¬ j = n by omega)]; exact hq⟩
  · simp only [if_neg (show ¬ 0 = n by omega)]
    exact b4
  · simp only [if_neg (show ¬ 0 = n by omega)]
    exact b5
  · by_cases c : j = n
    · subst c
      simp only [if_true]
      exact ⟨ho, i, by omega, by simp only [if_neg (show ¬ i = j by omega)]; exact hd, by simp only [if_neg (show ¬ i = j by omega)]⟩
    · simp only [if_neg c]
      obtain ⟨c1, p, c2, c3, c4⟩ := b6 j h0 (by omega)
      exact ⟨c1, p, by omega, by simp only [if_neg (show ¬ p = n by omega)]; exact c3, by simp only [if_neg (show ¬ p = n by omega)]; exact c4⟩
  · by_cases c : j2 = n
    · subst c
      simp only [if_true]
      by_cases c2 : j = j2
      · simp only [if_pos c2]
        exact Nat.le_refl _
      · simp only [if_neg c2]
        exact h6 j (by omega)
    · simp only [if_neg c, if_neg (show ¬ j = n by omega)]
      exact b7 j j2 h1 (by omega)
  · rw [cnt_flip (p := fun q => !decide (h.1 161 q = 99999)) (t := t) (by rw [decide_eq_true h9]; rfl) (by rw [wI_ne (by omega), wI_at, nn_add1, decide_eq_false (ne9 _ (by omega))]; rfl) (fun q hq => by rw [wI_ne (by omega), wI_ne (fun x => hq x.2)]), b9, if_pos ht]
