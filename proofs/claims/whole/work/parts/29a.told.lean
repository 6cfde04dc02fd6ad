/-! WHAT A LOOK TELLS -/
def sOn (s : Sg) (V : Int64) : List Nat → Nat
  | [] => 0
  | q :: st => sOn s V st ||| (if tb V q then 2 ^ srt s st.length else 0)
def tld (s : Sg) (V : Int64) (l : List Nat) : Nat := andn (2 ^ gS s - 1) (sOn s V l)
def orN (f : Nat → Nat) : Nat → Nat
  | 0 => 0
  | k + 1 => orN f k ||| f k
theorem orN_stk {s : Sg} {V : Int64} {r : Nat → Int32} : ∀ {l : List Nat}, stk r l → lt36 l → orN (fun t => if tb V (cN (r t)) then 2 ^ srt s t else 0) l.length = sOn s V l
  | [], _, _ => rfl
  | q :: st, h, l => by
    show orN _ st.length ||| (if tb V (cN (r st.length)) = true then _ else _) = _
    rw [orN_stk h.2 l.2, h.1, cN_nn (by have := l.1; omega)]
    rfl
theorem tld_lt {s : Sg} (w : WF s) {V : Int64} {l : List Nat} : tld s V l < 16 := by
  have h1 : 2 ^ gS s ≤ 2 ^ 4 := Nat.pow_le_pow_right (by omega) w.s.2
  have h2 := andn_le (a := 2 ^ gS s - 1) (b := sOn s V l)
  have h3 : 0 < 2 ^ gS s := Nat.two_pow_pos _
  unfold tld
  omega
theorem andn_or {a x y : Nat} : andn (andn a x) y = andn a (x ||| y) := by
  apply Nat.eq_of_testBit_eq
  intro i
  rw [andn_tb, andn_tb, andn_tb, Nat.testBit_or]
  cases a.testBit i <;> cases x.testBit i <;> cases y.testBit i <;> rfl
theorem andn_z {a : Nat} : andn a 0 = a := by
  unfold andn
  simp
theorem nmk_all : ∀ {n : Nat}, nmk (fun _ => true) n = 2 ^ n - 1
  | 0 => rfl
  | n + 1 => by
    show nmk (fun _ => true) n + (if true = true then 2 ^ n else 0) = _
    rw [nmk_all, if_pos rfl, Nat.pow_succ]
    have : 0 < 2 ^ n := Nat.two_pow_pos _
    omega
theorem r_noneSeen {L : Nat → Lw} {h : qa_M} (w : WF (sg h)) (rp : RP (sg h) L h) {l : List Nat} (hl : l.length = nT (sg h)) (hs : stk (h.1 151) l) (h36 : lt36 l) {V : Int64} : m_X12_noneSeen V h = some (nn (tld (sg h) V l), h) := by
  have hn := w.n
  have l4 := w.s.2
  have e4 : h.1 120 4 = nn (gS (sg h)) := w.s.1
  have fin : f_X12_noneSeen_b29 V (nn (2 ^ gS (sg h) - 1)) h = some (nn (tld (sg h) V l), h) := by
    unfold f_X12_noneSeen_b29 f_X12_noneSeen_b32_loop
    rw [qbd_e]
    unfold tld
    rw [← orN_stk hs h36, hl]
    rw [show nn (2 ^ gS (sg h) - 1) = nn (andn (2 ^ gS (sg h) - 1) (orN (fun t => if tb V (cN (h.1 151 t)) then 2 ^ srt (sg h) t else 0) 0)) by rw [show orN (fun t => if tb V (cN (h.1 151 t)) then 2 ^ srt (sg h) t else 0) 0 = 0 from rfl, andn_z]]
    refine qlp_for0 (fun k => (V, nn (andn (2 ^ gS (sg h) - 1) (orN (fun t => if tb V (cN (h.1 151 t)) then 2 ^ srt (sg h) t else 0) k)), nn k, h)) (nT (sg h)) ?_ ?_
    · intro k hk
      obtain ⟨a, ha, ea⟩ := stk_at hs h36 k (by omega)
      have sk := srt_lt hk
      have hi : orN (fun t => if tb V (cN (h.1 151 t)) then 2 ^ srt (sg h) t else 0) (k + 1) = orN (fun t => if tb V (cN (h.1 151 t)) then 2 ^ srt (sg h) t else 0) k ||| (if tb V a then 2 ^ srt (sg h) k else 0) := by
        show _ ||| (if tb V (cN (h.1 151 k)) = true then _ else _) = _
        rw [ea, cN_nn (by omega)]
      show f_X12_noneSeen_b32 V (nn _) (nn k) h = _
      unfold f_X12_noneSeen_b32 f_X12_noneSeen_b71
      rw [rp.1, if_neg (fun q => by rw [nn_le (by omega) (by omega)] at q; omega), qck_nn (by omega) (by omega), nn_cl (by omega), ea, r_has (by omega), qbn_s, hi]
      rcases mb2 (tb V a) with e | e
      · rw [e, if_neg (by decide), qck_nn (by omega) (by omega), qbd_e, qbd_e, rp.2.1 k hk, nn_sh1 (by omega), nn_adn, andn_or, nn_add1, if_pos rfl]
      · rw [e, if_pos (by decide), qbd_e, qbd_e, nn_am1, nn_add1, if_neg (by decide), Nat.or_zero]
    · show f_X12_noneSeen_b32 V (nn _) (nn (nT (sg h))) h = _
      unfold f_X12_noneSeen_b32
      rw [rp.1, if_pos ((nn_le (by omega) (by omega)).mpr (by omega)), qup_s]
  unfold m_X12_noneSeen f_X12_noneSeen_b5_loop
  rw [qbd_e, qbd_e]
  refine qlp_for0 (fun k => (V, nn (2 ^ k - 1), nn k, h)) (gS (sg h)) ?_ ?_
  · intro k hk
    show f_X12_noneSeen_b5 V (nn _) (nn k) h = _
    unfold f_X12_noneSeen_b5
    rw [qck_ok (i := 4) (by decide), show (4 : Int32).toNatClampNeg = 4 from rfl, e4, if_neg (fun q => by rw [nn_le (by omega) (by omega)] at q; omega), nn_sh1 (by omega), qbd_e, qbd_e, nn_or, nn_add1, ← nmk_all, nmk_or1 rfl, nmk_all]
  · show f_X12_noneSeen_b5 V (nn _) (nn (gS (sg h))) h = _
    unfold f_X12_noneSeen_b5
    rw [qck_ok (i := 4) (by decide), show (4 : Int32).toNatClampNeg = 4 from rfl, e4, if_pos ((nn_le (by omega) (by omega)).mpr (by omega)), fin, qup_s]
/-! the class's -/
theorem nn_shq {b : Bool} {k : Nat} (h : k < 31) : nn (if b then 1 else 0) <<< (nn k &&& 31) = nn (if b then 2 ^ k else 0) := by
  cases b
  · have : ∀ k, k < 31 → nn 0 <<< (nn k &&& 31) = nn 0 := by decide +kernel
    exact this k h
  · exact nn_sh1 h
theorem k_sortsOn {s : Sg} {L : Nat → Lw} {h : qa_M} (w : WF s) (sp : SP s L h) {st : List Nat} (hs : stk (h.1 31) st) (h36 : lt36 st) (hl : st.length = nT s - 1) {V : Int64} : m_X7_sortsOn V h = some (nn (sOn s V st), h) := by
  have hn := w.n
  have l4 := w.s.2
  unfold m_X7_sortsOn f_X7_sortsOn_b5_loop
  rw [qbd_e, qbd_e, ← orN_stk hs h36]
  refine qlp_for0 (fun k => (V, nn (orN (fun t => if tb V (cN (h.1 31 t)) then 2 ^ srt s t else 0) k), nn k, h)) st.length ?_ ?_
  · intro k hk
    obtain ⟨a, ha, ea⟩ := stk_at hs h36 k hk
    have sk := srt_lt (s := s) (show k < nT s by omega)
    show f_X7_sortsOn_b5 V (nn _) (nn k) h = _
    unfold f_X7_sortsOn_b5
    rw [sp.1, nn_sub1 (by omega), if_neg (fun q => by rw [nn_le (by omega) (by omega)] at q; omega), qck_nn (by omega) (by omega), qck_nn (by omega) (by omega), nn_cl (by omega), ea, sp.2.1 k (by omega), tb_g32 (by omega), nn_shq (by omega), nn_or, qbd_e, qbd_e, nn_add1]
    congr 5
    show _ = orN _ k ||| (if tb V (cN (h.1 31 k)) = true then _ else _)
    rw [ea, cN_nn (by omega)]
  · show f_X7_sortsOn_b5 V (nn _) (nn st.length) h = _
    unfold f_X7_sortsOn_b5
    rw [sp.1]
    have : nn (nT s) - 1 ≤ nn st.length := by
      rw [Int32.le_iff_toInt_le, nn_m1 (by omega), nn_toInt (by omega)]
      omega
    rw [if_pos this, qup_s]
theorem cnt_two {p r : Nat → Bool} {A B c : Nat} : ∀ {n : Nat}, cnt (fun q => p q && decide ((if r q then B else A) = c)) n = (if c = A then cnt p n - cnt (fun q => p q && r q) n else 0) + (if c = B then cnt (fun q => p q && r q) n else 0) ∧ cnt (fun q => p q && r q) n ≤ cnt p n
  | 0 => by simp [cnt]
  | n + 1 => by
    obtain ⟨ih, il⟩ := cnt_two (p := p) (r := r) (A := A) (B := B) (c := c) (n := n)
    have e1 : cnt (fun q => p q && decide ((if r q then B else A) = c)) (n + 1) = cnt (fun q => p q && decide ((if r q then B else A) = c)) n + (if (p n && decide ((if r n then B else A) = c)) = true then 1 else 0) := rfl
    have e2 : cnt (fun q => p q && r q) (n + 1) = cnt (fun q => p q && r q) n + (if (p n && r n) = true then 1 else 0) := rfl
    have e3 : cnt p (n + 1) = cnt p n + (if p n = true then 1 else 0) := rfl
    rw [e1, e2, e3, ih]
    clear e1 e2 e3 ih
    revert il
    generalize cnt (fun q => p q && r q) n = x
    generalize cnt p n = y
    intro il
    by_cases c1 : c = A <;> by_cases c2 : c = B
    · subst c1; subst c2
      cases p n <;> cases r n <;> simp <;> omega
    · have c2' : ¬ B = c := fun q => c2 q.symm
      subst c1
      cases p n <;> cases r n <;> simp [c2, c2'] <;> omega
    · have c1' : ¬ A = c := fun q => c1 q.symm
      subst c2
      cases p n <;> cases r n <;> simp [c1, c1'] <;> omega
    · have c1' : ¬ A = c := fun q => c1 q.symm
      have c2' : ¬ B = c := fun q => c2 q.symm
      cases p n <;> cases r n <;> simp [c1, c2, c1', c2'] <;> omega
/-- how many layings a look tells so -/
def tlV (s : Sg) (V : Int64) (D : List (List Nat)) (c : Nat) : Nat := D.countP (fun l => decide (tld s V l = c))
theorem tlV_b {s : Sg} {L : Nat → Lw} {S : Nat} {b : List Nat × Int64} (hb : b ∈ batC s L S) {V : Int64} (hV : ∀ k, 36 ≤ k → tb V k = false) {c : Nat} : tlV s V (flC s b) c = (if c = andn (2 ^ gS s - 1) (sOn s V b.1) then bc b.2 - bc (b.2 &&& V) else 0) + (if c = andn (andn (2 ^ gS s - 1) (sOn s V b.1)) (2 ^ (if nT s = 0 then 0 else srt s (nT s - 1))) then bc (b.2 &&& V) else 0) ∧ bc (b.2 &&& V) ≤ bc b.2 := by
  unfold tlV
  rcases bat_mem hb with ⟨c0, e0⟩ | ⟨c0, g0, l0, m0, -⟩
  · have b1 : bc b.2 = 1 := by rw [e0]; decide +kernel
    have b0 : bc (b.2 &&& V) = 0 := by
      apply bc_0
      intro k
      rw [tb_and, e0]
      rcases Nat.lt_or_ge k 36 with a | a
      · rw [tb_p62 k (by omega), decide_eq_false (by omega)]; rfl
      · rw [hV k a, Bool.and_false]
    refine ⟨?_, by omega⟩
    rw [b1, b0, e0]
    unfold flC
    rw [if_pos c0]
    show List.countP _ [[]] = _
    have : tld s V [] = andn (2 ^ gS s - 1) (sOn s V []) := rfl
    by_cases d : c = andn (2 ^ gS s - 1) (sOn s V [])
    · rw [if_pos d, List.countP_cons_of_pos (by rw [this, d]; exact decide_eq_true rfl)]
      simp
    · rw [if_neg d, List.countP_cons_of_neg (by rw [this]; exact fun q => d (of_decide_eq_true q).symm)]
      simp
  · have hb36 : ∀ k, 36 ≤ k → tb b.2 k = false := fun k hk => by rw [m0]; exact msk_hi hk
    have hm : bc (b.2 &&& V) = cnt (fun q => tb b.2 q && tb V q) 36 := by
      rw [bc_cnt (fun k hk => by rw [tb_and, hb36 k hk]; rfl)]
      exact cnt_congr (fun q _ => tb_and _ _ _)
    have key := cnt_two (p := tb b.2) (r := tb V) (A := andn (2 ^ gS s - 1) (sOn s V b.1)) (B := andn (andn (2 ^ gS s - 1) (sOn s V b.1)) (2 ^ srt s (nT s - 1))) (c := c) (n := 36)
    rw [if_neg (show ¬ nT s = 0 by omega), hm, bc_cnt hb36, ← key.1]
    refine ⟨?_, key.2⟩
    unfold flC
    rw [if_neg (show ¬ nT s = 0 by omega), flat_cnt]
    apply cnt_congr
    intro q _
    have : tld s V (q :: b.1) = if tb V q then andn (andn (2 ^ gS s - 1) (sOn s V b.1)) (2 ^ srt s (nT s - 1)) else andn (2 ^ gS s - 1) (sOn s V b.1) := by
      show andn _ (sOn s V b.1 ||| (if tb V q = true then 2 ^ srt s b.1.length else 0)) = _
      rw [show b.1.length = nT s - 1 by omega]
      rcases mb2 (tb V q) with e | e
      · rw [e, if_pos rfl, if_pos rfl, andn_or]
      · rw [e, if_neg (by decide), if_neg (by decide), Nat.or_zero]
    rw [this]
theorem wI_two {g : qa_M} {a i j k : Nat} {x y : Nat} : (qw_I (qw_I g a i (g.1 a i + nn x)) a j ((qw_I g a i (g.1 a i + nn x)).1 a j + nn y)).1 a k = g.1 a k + nn ((if k = i then x else 0) + (if k = j then y else 0)) := by
  by_cases c2 : k = j
  · subst c2
    rw [wI_at, if_pos rfl]
    by_cases c1 : k = i
    · subst c1
      rw [wI_at, if_pos rfl, ← nn_add, Int32.add_assoc]
    · rw [wI_ne (fun q => c1 q.2), if_neg c1, Nat.zero_add]
  · rw [wI_ne (fun q => c2 q.2), if_neg c2, Nat.add_zero]
    by_cases c1 : k = i
    · subst c1
      rw [wI_at, if_pos rfl]
    · rw [wI_ne (fun q => c1 q.2), if_neg c1]
      show _ = _ + (0 : Int32)
      rw [Int32.add_zero]
