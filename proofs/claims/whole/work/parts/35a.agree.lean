/-! LAWS THAT AGREE WHERE IT MATTERS -/
def AG (L M : Lw) : Prop := L 0 0 = M 0 0 ∧ (∀ i c, 1 ≤ i → i ≤ 5 → c < 12 → L i c = M i c) ∧ ∀ e, e < 300 → L 6 e = M 6 e ∧ L 7 e = M 7 e
theorem AG.c {L M : Lw} (g : AG L M) : lC L = lC M := by unfold lC; rw [g.1]
theorem AG.b {L M : Lw} (g : AG L M) {c : Nat} (h : c < 12) : isB L c = isB M c := by unfold isB; rw [g.2.1 2 c (by omega) (by omega) h]
theorem AG.t {L M : Lw} (g : AG L M) {c : Nat} (h : c < 12) : lT L c = lT M c := by unfold lT; rw [g.2.1 4 c (by omega) (by omega) h]
theorem AG.e {L M : Lw} (g : AG L M) {c : Nat} (h : c < 12) : lE L c = lE M c := by unfold lE; rw [g.2.1 5 c (by omega) (by omega) h]
theorem AG.gtyr {L M : Lw} (g : AG L M) {e : Nat} {T : List Bool} : ∀ {n : Nat}, e + n ≤ 300 → tyr L e T n = tyr M e T n
  | 0, _ => rfl
  | n + 1, h => by
    show (tyr L e T n).bind (tst (L 6 (e + n))) = (tyr M e T n).bind (tst (M 6 (e + n)))
    rw [g.gtyr (by omega), (g.2.2 (e + n) (by omega)).1]
theorem AG.gnv {L M : Lw} (g : AG L M) {e n : Nat} (h : e + n ≤ 300) : nv L e n = nv M e n := cnt_congr (fun k hk => by rw [(g.2.2 (e + k) (by omega)).1])
theorem AG.grn {L M : Lw} (g : AG L M) {f : Nat → Int64} {e : Nat} : ∀ {n : Nat}, e + n ≤ 300 → rn L f e n = rn M f e n
  | 0, _ => rfl
  | n + 1, h => by
    show stp f (L 6 (e + n)) (L 7 (e + n)) (rn L f e n) = stp f (M 6 (e + n)) (M 7 (e + n)) (rn M f e n)
    rw [g.grn (by omega), (g.2.2 (e + n) (by omega)).1, (g.2.2 (e + n) (by omega)).2]
theorem AG.wl {L M : Lw} (g : AG L M) (w : WL L) : WL M := by
  have h12 := w.n.2
  refine ⟨by rw [← g.1]; exact w.1, fun c hc => ?_⟩
  rw [← g.c] at hc
  have hc12 : c < 12 := by omega
  obtain ⟨a1, a2, a3⟩ := w.2 c hc
  rw [← g.b hc12, ← g.2.1 1 c (by omega) (by omega) hc12, ← g.2.1 2 c (by omega) (by omega) hc12, ← g.2.1 3 c (by omega) (by omega) hc12, ← g.2.1 4 c (by omega) (by omega) hc12, ← g.2.1 5 c (by omega) (by omega) hc12, ← g.t hc12, ← g.e hc12]
  refine ⟨a1, a2, fun q => ?_⟩
  obtain ⟨b1, b2, b3, b4, b5, b6⟩ := a3 q
  have hE : lE L c ≤ 300 := (inr_nn b2 (by omega)).2
  refine ⟨b1, b2, b3, ?_, ?_, fun e h1 h2 h3 => ?_⟩
  · rw [← g.gtyr (by omega)]; exact b4
  · rw [← g.gnv (by omega)]; exact b5
  · rw [← (g.2.2 e (by omega)).1] at h3
    rw [← (g.2.2 e (by omega)).2]
    exact b6 e h1 h2 h3
theorem AG.cl {L M : Lw} (g : AG L M) (w : WL L) {a : Nat} {h : qa_M} (c : CL a L h) : CL a M h := by
  have h12 := w.n.2
  obtain ⟨c1, c2, c3, c4⟩ := c
  have eb : ∀ n, n ≤ lC L → cnt (isB M) n = cnt (isB L) n := fun n hn => cnt_congr (fun k hk => (g.b (by omega)).symm)
  have ea : ∀ n, n ≤ lC L → cnt (fun c => !isB M c) n = cnt (fun c => !isB L c) n := fun n hn => cnt_congr (fun k hk => by rw [g.b (by omega)])
  unfold CL
  rw [← g.c, eb _ (Nat.le_refl _), ea _ (Nat.le_refl _)]
  refine ⟨c1, c2, fun c hc hb => ?_, fun c hc hb => ?_⟩
  · have hc12 : c < 12 := by omega
    rw [← g.b hc12] at hb
    rw [ea c (by omega), ← g.2.1 1 c (by omega) (by omega) hc12, ← g.2.1 2 c (by omega) (by omega) hc12, ← g.2.1 3 c (by omega) (by omega) hc12]
    exact c3 c hc hb
  · have hc12 : c < 12 := by omega
    rw [← g.b hc12] at hb
    rw [eb c (by omega), ← g.2.1 1 c (by omega) (by omega) hc12, ← g.2.1 4 c (by omega) (by omega) hc12, ← g.2.1 5 c (by omega) (by omega) hc12, ← g.t hc12, ← g.e hc12]
    obtain ⟨d1, d2, d3, d4⟩ := c4 c hc hb
    obtain ⟨b1, b2, -⟩ := (w.2 c hc).2.2 hb
    have hE : lE L c ≤ 300 := (inr_nn b2 (by omega)).2
    exact ⟨d1, d2, d3, fun e h1 h2 => by rw [← (g.2.2 e (by omega)).1, ← (g.2.2 e (by omega)).2]; exact d4 e h1 h2⟩
theorem AG.gvl {L M : Lw} (g : AG L M) {f : Nat → Int64} {c : Nat} (hc : c < 12) (hE : lE L c ≤ 300) (hT : lT L c ≤ lE L c) : vl L f c = vl M f c := by
  have e1 : rn L f (lT L c) (lE L c - lT L c) = rn M f (lT M c) (lE M c - lT M c) := by
    rw [← g.t hc, ← g.e hc]
    exact g.grn (by omega)
  unfold vl
  rw [e1]
theorem AG.gbrd {L M : Lw} (g : AG L M) (w : WL L) {f : Nat → Int64} {i : Nat} : brd L f i = brd M f i := by
  have h12 := w.n.2
  unfold brd
  rw [← g.c]
  refine exN_congr ?_
  intro c hc
  have hc12 : c < 12 := by omega
  show (isB L c && (decide (L 1 c = nn i) && vl L f c)) = (isB M c && (decide (M 1 c = nn i) && vl M f c))
  rw [← g.b hc12, ← g.2.1 1 c (by omega) (by omega) hc12]
  by_cases hb : isB L c = true
  · obtain ⟨b1, b2, b3, -⟩ := (w.2 c hc).2.2 hb
    have hE : lE L c ≤ 300 := (inr_nn b2 (by omega)).2
    rw [g.gvl hc12 hE b3]
  · rw [Bool.not_eq_true] at hb
    rw [hb, Bool.false_and, Bool.false_and]
theorem AG.gfrF {L M : Lw} (g : AG L M) {a b : Nat} : ∀ {n : Nat}, n ≤ 12 → frF L a b n = frF M a b n
  | 0, _ => rfl
  | n + 1, h => by
    show (if isB L n = false ∧ ((L 1 n = nn a ∧ L 2 n = nn b) ∨ (L 1 n = nn b ∧ L 2 n = nn a)) then max (frF L a b n) (cN (L 3 n)) else frF L a b n) = (if isB M n = false ∧ ((M 1 n = nn a ∧ M 2 n = nn b) ∨ (M 1 n = nn b ∧ M 2 n = nn a)) then max (frF M a b n) (cN (M 3 n)) else frF M a b n)
    rw [g.gfrF (by omega), g.b (by omega), g.2.1 1 n (by omega) (by omega) (by omega), g.2.1 2 n (by omega) (by omega) (by omega), g.2.1 3 n (by omega) (by omega) (by omega)]
def LE (s : Sg) (L M : Nat → Lw) : Prop := brS s L = brS s M ∧ frS s L = frS s M
theorem LE_ag {s : Sg} {L M : Nat → Lw} (h : ∀ k, k + 1 = gL s → AG (L k) (M k) ∧ WL (L k)) : LE s L M := by
  by_cases c : gL s = 0
  · constructor
    · funext q i; unfold brS; rw [if_pos c, if_pos c]
    · funext a b; unfold frS; rw [if_pos c, if_pos c]
  · obtain ⟨g, w⟩ := h (gL s - 1) (by omega)
    constructor
    · funext q i; unfold brS; rw [if_neg c, if_neg c, g.gbrd w]
    · funext a b; unfold frS; rw [if_neg c, if_neg c, ← g.c, g.gfrF w.n.2]
theorem LE.ok {s : Sg} {L M : Nat → Lw} (e : LE s L M) : okA s L = okA s M := by
  funext st q
  unfold okA farK alw
  rw [e.1, e.2]
theorem LE.fit {s : Sg} {L M : Nat → Lw} (e : LE s L M) (S : Nat) : fitL s L S = fitL s M S := by
  unfold fitL allL
  rw [e.ok]
theorem LE.all {s : Sg} {L M : Nat → Lw} (e : LE s L M) : allL s L = allL s M := by
  unfold allL
  rw [e.ok]
theorem LE.sp {s : Sg} {L M : Nat → Lw} {h : qa_M} (e : LE s L M) (p : SP s L h) : SP s M h := by
  unfold SP at p ⊢
  rw [← e.1, ← e.2]
  exact p
theorem LE.ft {s : Sg} {L M : Nat → Lw} {h : qa_M} (e : LE s L M) (p : FT s L h) : FT s M h := by
  unfold FT at p ⊢
  rw [← e.all]
  exact p
theorem LE.lk {s : Sg} {L M : Nat → Lw} {S m : Nat} {h : qa_M} (e : LE s L M) (p : LK s L S m h) : LK s M S m h := by
  unfold LK at p ⊢
  rw [← e.fit S]
  exact p
theorem LE.pk {s : Sg} {L M : Nat → Lw} {S : Nat} {h : qa_M} (e : LE s L M) (p : PK s L S h) : PK s M S h := by
  unfold PK at p ⊢
  rw [← e.fit S]
  exact p
