/-! THE CLASS'S SEARCH: where a thing can stand -/
def sur (s : Sg) (m : Nat) : Int := (s 11 m).toInt
def isLst (s : Sg) (t : Nat) : Bool := decide (t + 1 = nT s) || !decide (srt s (t + 1) = srt s t)
def nOK (s : Sg) (m : Nat) (st : List Nat) (q : Nat) : Bool := if sur s m < 0 then !(isLst s st.length && decide (cR s m st = 0)) || tb (reg s m) q else !decide (sur s m ≤ cR s m st) || !tb (reg s m) q
def chkN (s : Sg) (S : Nat) (st : List Nat) (q : Nat) : Bool := alF (fun m => !(S.testBit m && decide (nSort s m = srt s st.length)) || nOK s m st q) 0 (gT s)
def okB (s : Sg) (L : Nat → Lw) (S : Nat) (st : List Nat) (q : Nat) : Bool := okA s L st q && chkN s S st q
theorem alF_iff {p : Nat → Bool} : ∀ {n k : Nat}, alF p k n = true ↔ ∀ j, k ≤ j → j < k + n → p j = true
  | 0, k => by
    constructor
    · intro _ j h1 h2; omega
    · intro _; rfl
  | n + 1, k => by
    show (p k && alF p (k + 1) n) = true ↔ _
    rw [Bool.and_eq_true, alF_iff]
    constructor
    · rintro ⟨a, b⟩ j h1 h2
      by_cases c : j = k
      · subst c; exact a
      · exact b j (by omega) (by omega)
    · intro h
      exact ⟨h k (by omega) (by omega), fun j h1 h2 => h j (by omega) (by omega)⟩
/-- notes that are counted while things are laid -/
def pCt (s : Sg) (S m : Nat) : Bool := S.testBit m && (!decide (sur s m = 0) && (!(decide (sur s m < 0) && decide (mny s (nSort s m) = 0)) && decide (sur s m < mny s (nSort s m))))
def alwN (s : Sg) (L : Nat → Lw) (S i q : Nat) : Bool := tb (alw s L i) q && alF (fun m => !(S.testBit m && (decide (sur s m = 0) && decide (nSort s m = i))) || !tb (reg s m) q) 0 (gT s)
def hopl (s : Sg) (S : Nat) : Bool := exN (fun m => S.testBit m && (decide (sur s m < 0) && decide (mny s (nSort s m) = 0))) (gT s)
/-- the search is set to go through the layings that fit a set -/
def NSp (s : Sg) (L : Nat → Lw) (S : Nat) (h : qa_M) : Prop :=
  h.1 22 8 = nn (cnt (pCt s S) (gT s)) ∧ (∀ m, m < gT s → pCt s S m = true → h.2.1 28 (cnt (pCt s S) m) = reg s m ∧ h.1 29 (cnt (pCt s S) m) = nn (nSort s m) ∧ h.1 30 (cnt (pCt s S) m) = s 11 m) ∧ (∀ i, i < 4 → h.2.1 27 i = mkm (alwN s L S i) 36)
/-- squares nearer than a distance -/
def NearT (h : qa_M) : Prop := ∀ d q, 1 ≤ d → d < 6 → q < 36 → h.2.1 23 (d * 36 + q) = mkm (fun p => decide (ds p q < d)) 36
theorem ds_comm (a b : Nat) : ds a b = ds b a := by unfold ds dst; omega
theorem frF_comm {L : Lw} {a b : Nat} : ∀ {n : Nat}, frF L a b n = frF L b a n
  | 0 => rfl
  | n + 1 => by
    show (if isB L n = false ∧ ((L 1 n = nn a ∧ L 2 n = nn b) ∨ (L 1 n = nn b ∧ L 2 n = nn a)) then max (frF L a b n) (cN (L 3 n)) else frF L a b n) = (if isB L n = false ∧ ((L 1 n = nn b ∧ L 2 n = nn a) ∨ (L 1 n = nn a ∧ L 2 n = nn b)) then max (frF L b a n) (cN (L 3 n)) else frF L b a n)
    rw [frF_comm (n := n)]
    by_cases c : isB L n = false ∧ ((L 1 n = nn a ∧ L 2 n = nn b) ∨ (L 1 n = nn b ∧ L 2 n = nn a))
    · rw [if_pos c, if_pos ⟨c.1, c.2.symm⟩]
    · rw [if_neg c, if_neg (fun q => c ⟨q.1, q.2.symm⟩)]
theorem frS_comm {s : Sg} {L : Nat → Lw} {a b : Nat} : frS s L a b = frS s L b a := by
  unfold frS
  rw [frF_comm]
def alk (s : Sg) (o : Nat) : List Nat → Int64
  | [] => 0
  | a :: st => if srt s st.length = o then alk s o st ||| q_lshl 1 (nn a) else alk s o st
theorem fold_stk {σ : Type} {F : Nat → σ} {f : Nat → Nat → σ → σ} {G : List Nat → σ} {r : Nat → Int32} (hF : ∀ o, F (o + 1) = f o (cN (r o)) (F o)) (h0 : G [] = F 0) (hG : ∀ a st, G (a :: st) = f st.length a (G st)) : ∀ {st : List Nat}, stk r st → lt36 st → F st.length = G st
  | [], _, _ => h0.symm
  | a :: st, h, l => by
    show F (st.length + 1) = _
    rw [hF, fold_stk hF h0 hG h.2 l.2, h.1, cN_nn (by have := l.1; omega), hG]
theorem alk_hi {s : Sg} {o : Nat} : ∀ {st : List Nat}, lt36 st → ∀ k, 36 ≤ k → tb (alk s o st) k = false
  | [], _, k, _ => tb_zero k
  | a :: st, h, k, hk => by
    have ih := alk_hi (s := s) (o := o) h.2 k hk
    have := h.1
    unfold alk
    split
    · rw [tb_or, ih, tb_bit (by omega), decide_eq_false (by omega)]; rfl
    · exact ih
theorem alk_no {s : Sg} {L : Nat → Lw} {o q : Nat} (wl : ∀ k, k + 1 = gL s → WL (L k)) {u : Nat} : ∀ {st : List Nat}, lt36 st → farL (fun x a => decide (frS s L u (srt s x) ≤ ds a q)) st = true → tb (alk s o st) q = false
  | [], _, _ => tb_zero q
  | a :: st, h, hf => by
    have hf : (farL (fun x a => decide (frS s L u (srt s x) ≤ ds a q)) st && decide (frS s L u (srt s st.length) ≤ ds a q)) = true := hf
    rw [Bool.and_eq_true, decide_eq_true_eq] at hf
    have ih := alk_no (o := o) wl h.2 hf.1
    have h1 := h.1
    have h2 := frS_le wl u (srt s st.length)
    unfold alk
    split
    · rw [tb_or, ih, tb_bit (by omega), decide_eq_false ?_]
      · rfl
      · rintro rfl
        have := hf.2
        unfold ds dst at this
        omega
    · exact ih
theorem cnt_or1 {p : Nat → Bool} {a : Nat} {c : Bool} (hp : p a = false) : ∀ {n : Nat}, a < n → cnt (fun k => p k || (decide (k = a) && c)) n = cnt p n + (if c then 1 else 0)
  | 0, h => by omega
  | n + 1, h => by
    show cnt (fun k => p k || (decide (k = a) && c)) n + (if (p n || (decide (n = a) && c)) = true then 1 else 0) = cnt p n + (if p n = true then 1 else 0) + _
    by_cases e : n = a
    · subst e
      have : cnt (fun k => p k || (decide (k = n) && c)) n = cnt p n := cnt_congr (fun k hk => by rw [decide_eq_false (by omega)]; simp)
      rw [this, hp]
      simp
    · rw [cnt_or1 hp (show a < n by omega), decide_eq_false e]
      simp
      omega
theorem reg_hi {s : Sg} {m k : Nat} (h : 36 ≤ k) : tb (reg s m) k = false := by
  unfold reg
  split
  · unfold seesM; rw [tb_mkm (by omega), decide_eq_false (by omega)]; rfl
  · unfold roadM; rw [tb_mkm (by omega), decide_eq_false (by omega)]; rfl
theorem good_far {s : Sg} {L : Nat → Lw} {st : List Nat} {q : Nat} (h : okA s L st q = true) : farL (fun o a => decide (frS s L (srt s st.length) (srt s o) ≤ ds a q)) st = true := by
  unfold okA farK at h
  rw [Bool.and_eq_true, Bool.and_eq_true] at h
  exact h.1.2
/-- how many of a note's things stand where it speaks of -/
theorem bc_alk {s : Sg} {L : Nat → Lw} (wl : ∀ k, k + 1 = gL s → WL (L k)) {m : Nat} : ∀ {st : List Nat}, good (okA s L) st → bc (reg s m &&& alk s (nSort s m) st) = cR s m st
  | [], _ => by
    rw [bc_cnt (fun k hk => by rw [tb_and, reg_hi hk]; rfl)]
    show cnt _ 36 = 0
    rw [cnt_congr (q := fun _ => false) (fun k _ => by rw [tb_and]; show (_ && tb 0 k) = false; rw [tb_zero, Bool.and_false])]
    rfl
  | a :: st, g => by
    have ih := bc_alk wl (m := m) g.2.2
    have hl := good_lt g.2.2
    have ha := g.1
    rw [bc_cnt (fun k hk => by rw [tb_and, reg_hi hk]; rfl)] at ih ⊢
    show _ = cR s m st + (if (decide (srt s st.length = nSort s m) && tb (reg s m) a) = true then 1 else 0)
    rw [← ih, show alk s (nSort s m) (a :: st) = (if srt s st.length = nSort s m then alk s (nSort s m) st ||| q_lshl 1 (nn a) else alk s (nSort s m) st) from rfl]
    by_cases c : srt s st.length = nSort s m
    · rw [if_pos c, decide_eq_true c, Bool.true_and]
      have hno := alk_no (o := nSort s m) wl hl (good_far g.2.1)
      rw [← cnt_or1 (p := tb (reg s m &&& alk s (nSort s m) st)) (c := tb (reg s m) a) (by rw [tb_and, hno, Bool.and_false]) ha]
      apply cnt_congr
      intro k hk
      rw [tb_and, tb_and, tb_or, tb_bit (by omega)]
      by_cases e : k = a
      · subst e; rw [hno, decide_eq_true rfl]; simp
      · rw [decide_eq_false e]; simp
    · rw [if_neg c, decide_eq_false c]
      rfl
theorem cR_lt {s : Sg} {m : Nat} : ∀ {st : List Nat}, st.length ≤ nT s → cR s m st ≤ st.length - sumN (mny s) (nSort s m)
  | [], _ => by simp [cR]
  | a :: st, h => by
    have hlt : st.length < nT s := h
    have ih := cR_lt (s := s) (m := m) (st := st) (by omega)
    show cR s m st + (if (decide (srt s st.length = nSort s m) && tb (reg s m) a) = true then 1 else 0) ≤ st.length + 1 - _
    by_cases c : srt s st.length = nSort s m
    · obtain ⟨i, i1, i2, i3⟩ := srt_ex hlt
      have := srt_of i1 i2 i3
      rw [this] at c
      subst c
      split <;> omega
    · rw [decide_eq_false c, Bool.false_and, if_neg (by decide)]
      omega
def cdN (s : Sg) (S : Nat) (st : List Nat) (q m : Nat) : Bool := !(pCt s S m && decide (nSort s m = srt s st.length)) || nOK s m st q
theorem mkm_and {p : Nat → Bool} {x : Int64} {n : Nat} (hn : n ≤ 64) : mkm p n &&& x = mkm (fun q => p q && tb x q) n := by
  refine mkm_of hn (fun k hk => ?_)
  rw [tb_and, tb_mkm hn]
  cases decide (k < n) <;> rfl
theorem alF_skip {p : Nat → Bool} {c d : Nat} (h : ∀ m, c ≤ m → m < c + d → p m = true) : alF p 0 (c + d) = alF p 0 c := by
  induction d with
  | zero => rfl
  | succ d ih =>
    rw [show c + (d + 1) = (c + d) + 1 by omega, alF_snoc, ih (fun m a b => h m a (by omega)), Nat.zero_add, h (c + d) (by omega) (by omega), Bool.and_true]
theorem k_roomNotes {s : Sg} {L : Nat → Lw} {S : Nat} {h : qa_M} (w : WF s) (wl : ∀ k, k + 1 = gL s → WL (L k)) (sp : SP s L h) (ns : NSp s L S h) {st : List Nat} (hg : good (okA s L) st) (ht : st.length < nT s) (P : Nat → Bool) :
    m_X7_roomByNotes (mkm P 36) (nn st.length) (alk s (srt s st.length) st) h = some (mkm (fun q => P q && alF (cdN s S st q) 0 (gT s)) 36, h) := by
  have hn := w.n
  have l4 := w.s.2
  have l10 := w.t.2
  have so := srt_lt ht
  obtain ⟨own, hown⟩ : ∃ own, own = srt s st.length := ⟨_, rfl⟩
  obtain ⟨N, hN⟩ : ∃ N, N = cnt (pCt s S) (gT s) := ⟨_, rfl⟩
  have hN10 : N ≤ 10 := by have := cnt_le (p := pCt s S) (n := gT s); omega
  have key : f_X7_roomByNotes_b36 (mkm P 36) (alk s own st) (nn own) (bi (isLst s st.length)) h = some (mkm (fun q => P q && alF (cdN s S st q) 0 (gT s)) 36, h) := by
    unfold f_X7_roomByNotes_b36 f_X7_roomByNotes_b44_loop
    simp only [qbd_e]
    rw [← qW_eq]
    refine qW_for N (fun i t => ∃ c, t = (alk s own st, nn own, bi (isLst s st.length), mkm (fun q => P q && alF (cdN s S st q) 0 c) 36, nn i, h) ∧ c ≤ gT s ∧ cnt (pCt s S) c = i) ?_ ?_ (Nat.zero_le N) ⟨0, ?_, by omega, rfl⟩
    · rintro i t hi ⟨c, rfl, hc, hci⟩
      obtain ⟨c2, d1, d2, d3, d4, d5⟩ := cnt_nxt (p := pCt s S) (m := gT s) (gT s - c) c (by omega) (by rw [hci, ← hN]; exact hi)
      obtain ⟨e1, e2, e3⟩ := ns.2.1 c2 d2 d3
      rw [d4, hci] at e1 e2 e3
      obtain ⟨n1, n2, n3, n4⟩ := w.ns d2
      have pm : sur s c2 ≠ 0 := by
        intro q
        unfold pCt at d3
        rw [q] at d3
        simp at d3
      have es : mkm (fun q => P q && alF (cdN s S st q) 0 c) 36 = mkm (fun q => P q && alF (cdN s S st q) 0 c2) 36 := by
        apply mkm_congr
        intro q _
        rw [show c2 = c + (c2 - c) by omega, alF_skip (fun m a b => by unfold cdN; rw [d5 m a (by omega)]; rfl)]
      have fin : ∀ y : Int64, y = mkm (fun q => P q && alF (cdN s S st q) 0 (c2 + 1)) 36 → qW (f_X7_roomByNotes_b149 (alk s own st) (nn own) (bi (isLst s st.length)) y (nn i) h) (Sum.elim (fun t => ∃ c, t = (alk s own st, nn own, bi (isLst s st.length), mkm (fun q => P q && alF (cdN s S st q) 0 c) 36, nn (i + 1), h) ∧ c ≤ gT s ∧ cnt (pCt s S) c = i + 1) (fun b => b = (mkm (fun q => P q && alF (cdN s S st q) 0 (gT s)) 36, h))) := by
        intro y hy
        unfold f_X7_roomByNotes_b149
        rw [qbd_e, nn_add1, qW_some, hy]
        exact ⟨c2 + 1, rfl, by omega, by rw [cnt_t d3, d4, hci]⟩
      have same : (∀ q, q < 36 → cdN s S st q c2 = true) → mkm (fun q => P q && alF (cdN s S st q) 0 c) 36 = mkm (fun q => P q && alF (cdN s S st q) 0 (c2 + 1)) 36 := by
        intro hq
        rw [es]
        apply mkm_congr
        intro q h36
        rw [alF_snoc, Nat.zero_add, hq q h36, Bool.and_true]
      have with_ : ∀ x : Int64, (∀ q, q < 36 → cdN s S st q c2 = tb x q) → mkm (fun q => P q && alF (cdN s S st q) 0 c) 36 &&& x = mkm (fun q => P q && alF (cdN s S st q) 0 (c2 + 1)) 36 := by
        intro x hq
        rw [es, mkm_and (by omega)]
        apply mkm_congr
        intro q h36
        rw [alF_snoc, Nat.zero_add, hq q h36, Bool.and_assoc]
      show qW (f_X7_roomByNotes_b44 (alk s own st) (nn own) (bi (isLst s st.length)) _ (nn i) h) _
      unfold f_X7_roomByNotes_b44
      rw [ns.1, ← hN, if_neg (fun q => by rw [nn_le (by omega) (by omega)] at q; omega)]
      simp (disch := first | omega | decide) only [qbn_x, qbv_x, qup_x, qbd_x, qck_nn, qck_ok, nn_cl, nn_add1, lx0, lx1, lx2, lx3, lx4, lx5, lx6, lx7, lx8, lx9, lx10, bi_e0, bi_e1]
      rw [e2, e1]
      by_cases co : nSort s c2 = own
      · rw [if_pos (by rw [co]), bc_spec, qbn_s, e3, e1, ← co, bc_alk wl hg]
        have hcd : ∀ q, cdN s S st q c2 = nOK s c2 st q := by
          intro q
          unfold cdN
          rw [d3, decide_eq_true (by rw [co, hown])]
          rfl
        rw [co]
        have clt := cR_le (s := s) (m := c2) (l := st)
        have z : (0 : Int32).toInt = 0 := rfl
        by_cases cs : s 11 c2 ≤ 0
        · have cs2 : sur s c2 < 0 := by
            have : (s 11 c2).toInt ≤ 0 := by rw [Int32.le_iff_toInt_le] at cs; omega
            unfold sur at pm ⊢
            omega
          rw [if_pos cs]
          rcases mb2 (isLst s st.length) with li | li
          · rw [if_neg (by rw [li]; decide)]
            by_cases c0 : cR s c2 st = 0
            · rw [if_pos (by rw [c0]; rfl)]
              refine fin _ (with_ _ (fun q h36 => ?_))
              rw [hcd, nOK, if_pos cs2, li, decide_eq_true c0]
              rfl
            · rw [if_neg (by rw [show (0 : Int32) = nn 0 from rfl, nn_eq (by omega) (by omega)]; exact c0)]
              refine fin _ (same (fun q h36 => ?_))
              rw [hcd, nOK, if_pos cs2, decide_eq_false c0, Bool.and_false]
              rfl
          · rw [if_pos (by rw [li])]
            refine fin _ (same (fun q h36 => ?_))
            rw [hcd, nOK, if_pos cs2, li]
            rfl
        · have cs2 : ¬ sur s c2 < 0 := by
            rw [Int32.le_iff_toInt_le] at cs
            unfold sur
            omega
          rw [if_neg cs]
          unfold f_X7_roomByNotes_b121
          by_cases c0 : sur s c2 ≤ cR s c2 st
          · rw [if_neg (by rw [Int32.lt_iff_toInt_lt, nn_toInt (by omega)]; unfold sur at c0; omega), qbd_e]
            refine fin _ (with_ _ (fun q h36 => ?_))
            rw [hcd, nOK, if_neg cs2, decide_eq_true c0, tb_not (by omega)]
            rfl
          · rw [if_pos (by rw [Int32.lt_iff_toInt_lt, nn_toInt (by omega)]; unfold sur at c0; omega), qbd_e]
            refine fin _ (with_ _ (fun q h36 => ?_))
            rw [hcd, nOK, if_neg cs2, decide_eq_false c0, tb_m1, decide_eq_true (by omega)]
            rfl
      · rw [if_neg (by rw [nn_eq (by omega) (by omega)]; exact co)]
        refine fin _ (same (fun q h36 => ?_))
        unfold cdN
        rw [decide_eq_false (by rw [← hown]; exact co), Bool.and_false]
        rfl
    · rintro t ⟨c, rfl, hc, hci⟩
      show qW (f_X7_roomByNotes_b44 (alk s own st) (nn own) (bi (isLst s st.length)) _ (nn N) h) _
      unfold f_X7_roomByNotes_b44
      rw [ns.1, ← hN, if_pos ((nn_le (by omega) (by omega)).mpr (by omega)), qup_s, qW_some]
      show (_, h) = (_, h)
      congr 1
      apply mkm_congr
      intro q _
      rw [show gT s = c + (gT s - c) by omega, alF_skip (fun m a b => by unfold cdN; rw [cnt_end (p := pCt s S) hc (by rw [hci, hN]) m a (by omega)]; rfl)]
    · rw [show mkm (fun q => P q && alF (cdN s S st q) 0 0) 36 = mkm P 36 from mkm_congr (fun q _ => Bool.and_true _)]
      rfl
  unfold m_X7_roomByNotes
  rw [← hown] at so ⊢
  rw [qck_nn (by omega) (by omega), nn_cl (by omega), qbd_e, sp.1, sp.2.1 _ ht, ← hown, nn_add1]
  unfold f_X7_roomByNotes_b31
  by_cases c1 : st.length + 1 = nT s
  · rw [if_pos (by rw [c1])]
    rw [show isLst s st.length = true by unfold isLst; rw [decide_eq_true c1]; rfl] at key
    exact key
  · have s2 := srt_lt (s := s) (show st.length + 1 < nT s by omega)
    rw [if_neg (by rw [nn_eq (by omega) (by omega)]; exact c1), qck_nn (by omega) (by omega), nn_cl (by omega), sp.2.1 _ (by omega)]
    by_cases c2 : srt s (st.length + 1) = own
    · rw [if_pos (by rw [c2])]
      rw [show isLst s st.length = false by unfold isLst; rw [decide_eq_false c1, decide_eq_true (by rw [c2, hown])]; rfl] at key
      exact key
    · rw [if_neg (by rw [nn_eq (by omega) (by omega)]; exact c2)]
      rw [show isLst s st.length = true by unfold isLst; rw [decide_eq_false (show ¬ srt s (st.length + 1) = srt s st.length by rw [← hown]; exact c2)]; simp] at key
      exact key
/-- what the notes ask, all together -/
theorem chkN_eq {s : Sg} {L : Nat → Lw} {S : Nat} (w : WF s) {st : List Nat} (ht : st.length < nT s) {q : Nat} : (tb (alw s L (srt s st.length)) q && chkN s S st q) = (alwN s L S (srt s st.length) q && alF (cdN s S st q) 0 (gT s)) := by
  unfold alwN
  rw [Bool.and_assoc]
  congr 1
  rw [Bool.eq_iff_iff, Bool.and_eq_true]
  unfold chkN
  rw [alF_iff, alF_iff, alF_iff]
  obtain ⟨i, i1, i2, i3⟩ := srt_ex ht
  have hi := srt_of i1 i2 i3
  have hmn : 0 < mny s (srt s st.length) := by
    rw [hi]
    have : sumN (mny s) (i + 1) = sumN (mny s) i + mny s i := rfl
    omega
  constructor
  · intro h
    constructor
    · intro m h1 h2
      have := h m h1 h2
      rcases mb2 (S.testBit m) with a | a
      · by_cases b : sur s m = 0
        · by_cases c : nSort s m = srt s st.length
          · rw [a, decide_eq_true c] at this
            rw [a, decide_eq_true b, decide_eq_true c]
            unfold nOK at this
            rw [if_neg (by omega), b, decide_eq_true (by omega)] at this
            exact this
          · rw [decide_eq_false c]; simp
        · rw [decide_eq_false b]; simp
      · rw [a]; rfl
    · intro m h1 h2
      have := h m h1 h2
      unfold cdN
      rcases mb2 (pCt s S m && decide (nSort s m = srt s st.length)) with a | a
      · have a2 := a
        rw [Bool.and_eq_true] at a
        unfold pCt at a
        rw [Bool.and_eq_true] at a
        rw [a.1.1, a.2] at this
        rw [a2]
        exact this
      · rw [a]; rfl
  · rintro ⟨hA, hB⟩ m h1 h2
    rcases mb2 (S.testBit m && decide (nSort s m = srt s st.length)) with a | a
    · rw [a]
      rw [Bool.and_eq_true, decide_eq_true_eq] at a
      show (false || nOK s m st q) = true
      rw [Bool.false_or]
      have hA := hA m h1 h2
      have hB := hB m h1 h2
      by_cases b : sur s m = 0
      · rw [a.1, decide_eq_true b, decide_eq_true a.2] at hA
        unfold nOK
        rw [if_neg (by omega), b, decide_eq_true (by omega)]
        exact hA
      · by_cases c : sur s m < mny s (nSort s m)
        · have : pCt s S m = true := by
            unfold pCt
            rw [a.1, decide_eq_false b, decide_eq_true c, decide_eq_false (show ¬ mny s (nSort s m) = 0 by rw [a.2]; omega), Bool.and_false]
            rfl
          unfold cdN at hB
          rw [this, decide_eq_true a.2] at hB
          exact hB
        · have cl := cR_lt (s := s) (m := m) (st := st) (by omega)
          rw [a.2, hi] at cl c
          have : sumN (mny s) (i + 1) = sumN (mny s) i + mny s i := rfl
          unfold nOK
          rw [if_neg (by omega), decide_eq_false (by omega)]
          rfl
    · rw [a]; rfl
theorem bit_or0 {x : Int64} {a : Nat} (h : a < 64) : ¬ (x ||| q_lshl 1 (nn a) = 0) := by
  intro e
  have : tb (x ||| q_lshl 1 (nn a)) a = false := by rw [e, tb_zero]
  rw [tb_or, tb_bit h, decide_eq_true rfl, Bool.or_true] at this
  cases this
theorem alk_ne {s : Sg} {o : Nat} : ∀ {st : List Nat}, lt36 st → (¬ alk s o st = 0 ↔ ∃ x, x < st.length ∧ srt s x = o)
  | [], _ => by
    constructor
    · intro h; exact absurd rfl h
    · rintro ⟨x, hx, -⟩; simp at hx
  | a :: st, h => by
    have ih := alk_ne (s := s) (o := o) h.2
    have h1 := h.1
    unfold alk
    by_cases c : srt s st.length = o
    · rw [if_pos c]
      exact ⟨fun _ => ⟨st.length, by simp, c⟩, fun _ => bit_or0 (by omega)⟩
    · rw [if_neg c, ih]
      constructor
      · rintro ⟨x, hx, e⟩; exact ⟨x, by simp; omega, e⟩
      · rintro ⟨x, hx, e⟩
        refine ⟨x, ?_, e⟩
        simp at hx
        rcases Nat.lt_or_ge x st.length with q | q
        · exact q
        · rw [show x = st.length by omega] at e; exact absurd e c
theorem k_room {s : Sg} {L : Nat → Lw} {S : Nat} {h : qa_M} (w : WF s) (wl : ∀ k, k + 1 = gL s → WL (L k)) (nt : NearT h) (sp : SP s L h) (ns : NSp s L S h) {st : List Nat} (hs : stk (h.1 31) st) (hg : good (okA s L) st) (ht : st.length < nT s) :
    m_X7_room (nn st.length) h = some (msk (okB s L S) st, h) := by
  have hn := w.n
  have l4 := w.s.2
  have so := srt_lt ht
  have hl := good_lt hg
  obtain ⟨own, hown⟩ : ∃ own, own = srt s st.length := ⟨_, rfl⟩
  rw [← hown] at so
  let P : Nat → Nat → Bool := fun o q => alwN s L S own q && alF (fun o => decide (frS s L own (srt s o) ≤ ds (cN (h.1 31 o)) q)) 0 o
  let A : Nat → Int64 := fun o => Nat.rec 0 (fun o X => if srt s o = own then X ||| q_lshl 1 (nn (cN (h.1 31 o))) else X) o
  have hA : A st.length = alk s own st := fold_stk (F := A) (f := fun o a X => if srt s o = own then X ||| q_lshl 1 (nn a) else X) (G := alk s own) (r := h.1 31) (fun o => rfl) rfl (fun a st => rfl) hs hl
  have tail : ∀ Q : Nat → Bool, (∀ q, q < 36 → (Q q && alF (cdN s S st q) 0 (gT s)) = okB s L S st q) → f_X7_room_b118 (nn st.length) (mkm Q 36) (alk s own st) h = some (msk (okB s L S) st, h) := by
    intro Q hQ
    unfold f_X7_room_b118 f_X7_room_b131
    have hc10 : cnt (pCt s S) (gT s) ≤ 10 := by have := cnt_le (p := pCt s S) (n := gT s); have := w.t.2; omega
    by_cases c : cnt (pCt s S) (gT s) = 0
    · rw [if_pos (by rw [ns.1, c]; rfl)]
      congr 2
      apply mkm_congr
      intro q h36
      rw [← hQ q h36]
      have : alF (cdN s S st q) 0 (gT s) = true := by
        rw [alF_iff]
        intro m h1 h2
        unfold cdN
        rw [cnt_end (p := pCt s S) (Nat.zero_le _) (by rw [c]; rfl) m h1 (by omega)]
        rfl
      rw [this, Bool.and_true]
    · rw [if_neg (by rw [ns.1, show (0 : Int32) = nn 0 from rfl, nn_eq (by omega) (by omega)]; exact c)]
      by_cases d : mkm Q 36 = 0
      · rw [if_pos d, d]
        congr 2
        symm
        rw [tb_eq0] at d ⊢
        intro k hk
        have := d k hk
        rw [tb_mkm (by omega)] at this
        unfold msk
        rw [tb_mkm (by omega)]
        rcases Nat.lt_or_ge k 36 with h36 | h36
        · rw [decide_eq_true h36, Bool.true_and] at this
          rw [← hQ k h36, this]
          simp
        · rw [decide_eq_false (by omega)]; rfl
      · rw [if_neg d, hown, k_roomNotes w wl sp ns hg ht Q, qbn_s]
        congr 2
        exact mkm_congr hQ
  have okq : ∀ q, q < 36 → okB s L S st q = ((P st.length q && ordK s st q) && alF (cdN s S st q) 0 (gT s)) := by
    intro q h36
    have e1 := farL_al (P := fun o a => decide (frS s L own (srt s o) ≤ ds a q)) hs hl
    have e2 := chkN_eq (L := L) (S := S) w ht (q := q)
    rw [← hown] at e2
    show ((tb (alw s L (srt s st.length)) q && farK s L st q) && ordK s st q && chkN s S st q) = ((alwN s L S own q && alF (fun o => decide (frS s L own (srt s o) ≤ ds (cN (h.1 31 o)) q)) 0 st.length && ordK s st q) && _)
    rw [e1, ← hown]
    unfold farK
    rw [← hown]
    revert e2
    generalize tb (alw s L own) q = b1
    generalize chkN s S st q = b2
    generalize alwN s L S own q = b3
    generalize alF (cdN s S st q) 0 (gT s) = b4
    generalize farL (fun o a => decide (frS s L own (srt s o) ≤ ds a q)) st = b5
    generalize ordK s st q = b6
    cases b1 <;> cases b2 <;> cases b3 <;> cases b4 <;> cases b5 <;> cases b6 <;> decide
  unfold m_X7_room
  rw [qck_nn (by omega) (by omega), nn_cl (by omega), qbd_e, sp.2.1 _ ht, ← hown, qck_nn (by omega) (by omega), nn_cl (by omega), ns.2.2 own (by omega)]
  simp only [qbd_e]
  unfold f_X7_room_b20_loop
  have s0 : (nn st.length, nn own, mkm (alwN s L S own) 36, (0 : Int64), (0 : Int32), h) = (fun o => (nn st.length, nn own, mkm (P o) 36, A o, nn o, h)) 0 := by
    show _ = (nn st.length, nn own, mkm (P 0) 36, (0 : Int64), nn 0, h)
    rw [mkm_congr (q := P 0) (fun q _ => by show alwN s L S own q = (alwN s L S own q && true); rw [Bool.and_true])]
    rfl
  rw [s0]
  refine qlp_for0 (fun o => (nn st.length, nn own, mkm (P o) 36, A o, nn o, h)) st.length ?_ ?_
  · intro o ho
    obtain ⟨a, ha, ea⟩ := stk_at hs hl o ho
    have sO := srt_lt (s := s) (show o < nT s by omega)
    have bd := frS_le wl (srt s o) own
    show f_X7_room_b20 (nn st.length) (nn own) (mkm (P o) 36) (A o) (nn o) h = _
    unfold f_X7_room_b20
    rw [if_neg (fun q => by rw [nn_le (by omega) (by omega)] at q; omega)]
    simp (disch := first | omega | decide) only [qbn_x, qbv_x, qup_x, qbd_x, qck_nn, qck_ok, nn_cl, nn_add1, lx0, lx1, lx2, lx3, lx4, lx5, lx6, lx7, lx8, lx9, lx10, bi_e0, bi_e1]
    rw [sp.2.1 o (by omega), ea, show (4 : Int32) = nn 4 from rfl, show (36 : Int32) = nn 36 from rfl, nn_mul, nn_add, qck_nn (by omega) (by omega), nn_cl (by omega), show srt s o * 4 + own = 4 * srt s o + own by omega, sp.2.2.2 (srt s o) own (by omega) (by omega), nn_mul, nn_add, qck_nn (by omega) (by omega), nn_cl (by omega), nt _ a (by omega) (by omega) ha, mkm_and (by omega)]
    have eP : mkm (fun q => P o q && tb (mkm (fun p => decide (ds p a < frS s L (srt s o) own)) 36 ^^^ (-1)) q) 36 = mkm (P (o + 1)) 36 := by
      apply mkm_congr
      intro q h36
      show _ = (alwN s L S own q && alF _ 0 (o + 1))
      rw [alF_snoc, Nat.zero_add, tb_not (by omega), tb_mkm (by omega), decide_eq_true h36, Bool.true_and, ea, cN_nn (by omega), ds_comm a q, frS_comm (a := own)]
      show ((alwN s L S own q && _) && _) = _
      rw [Bool.and_assoc]
      congr 2
      rw [Bool.eq_iff_iff]
      simp
    rw [eP]
    unfold f_X7_room_b90
    have eA : A (o + 1) = if srt s o = own then A o ||| q_lshl 1 (nn a) else A o := by
      show (if srt s o = own then A o ||| q_lshl 1 (nn (cN (h.1 31 o))) else A o) = _
      rw [ea, cN_nn (by omega)]
    by_cases c : srt s o = own
    · rw [if_pos (by rw [c]), qbd_e, nn_add1]
      rw [if_pos c] at eA
      rw [← eA]
    · rw [if_neg (by rw [nn_eq (by omega) (by omega)]; exact c), qbd_e, nn_add1]
      rw [if_neg c] at eA
      rw [← eA]
  · show f_X7_room_b20 (nn st.length) (nn own) (mkm (P st.length) 36) (A st.length) (nn st.length) h = _
    unfold f_X7_room_b20
    rw [if_pos ((nn_le (by omega) (by omega)).mpr (by omega)), hA]
    have hb : f_X7_room_b96 (nn st.length) (mkm (P st.length) 36) (alk s own st) h = some (msk (okB s L S) st, h) := by
      unfold f_X7_room_b96
      by_cases c : alk s own st = 0
      · rw [if_pos c]
        refine tail _ (fun q h36 => ?_)
        rw [okq q h36]
        have : ordK s st q = true := by
          cases st with
          | nil => rfl
          | cons b st2 =>
            show (!decide (srt s (st2.length + 1) = srt s st2.length) || decide (b < q)) = true
            rw [decide_eq_false ?_]
            · rfl
            · intro e
              exact (alk_ne hl).mpr ⟨st2.length, by simp, by rw [hown]; exact e.symm⟩ c
        rw [this, Bool.and_true]
      · rw [if_neg c]
        obtain ⟨x, hx, ex⟩ := (alk_ne hl).mp c
        cases st with
        | nil => simp at hx
        | cons b st2 =>
          have hb36 := hl.1
          have e2 : srt s (st2.length + 1) = srt s st2.length := by
            have m1 := srt_mono (s := s) (show x ≤ st2.length by simp at hx; omega)
            have m2 := srt_mono (s := s) (show st2.length ≤ st2.length + 1 by omega)
            have : srt s (st2.length + 1) = own := hown.symm
            omega
          rw [show nn (b :: st2).length - 1 = nn st2.length from nn_sub1 (by simp), qck_nn (by simp at ht; omega) (by omega), nn_cl (by simp at ht; omega), hs.1, qbd_e, mkm_and (by omega)]
          refine tail _ (fun q h36 => ?_)
          rw [okq q h36]
          congr 2
          show tb (q_lshl (-2) (nn b)) q = (!decide (srt s (st2.length + 1) = srt s st2.length) || decide (b < q))
          rw [decide_eq_true e2, tb_up (by omega), decide_eq_true (show q < 64 by omega), Bool.and_true]
          rfl
    rw [hb, qup_s]
